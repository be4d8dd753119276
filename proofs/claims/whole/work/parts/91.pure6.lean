/-! Pure part 29: readiness, in the desk and in the reference. -/
theorem pn_s_0 {f : Nat → Nat} : ∀ {n : Nat}, pn_s f n = 0 ↔ ∀ j, j < n → f j = 0
  | 0 => by simp [pn_s]
  | n + 1 => by
    have ih := @pn_s_0 f n
    rw [pn_s]
    constructor
    · intro h j hj
      by_cases e : j = n
      · rw [e]; omega
      · exact ih.mp (by omega) j (by omega)
    · intro h
      have := ih.mpr (fun j hj => h j (by omega))
      have := h n (by omega)
      omega
def rd_row (ng : Nat) (v : Nat → Nat → Nat) : Nat → Bool := fun i => decide (pn_s (fun j => v i j) ng = 0)
def rd_col (nb : Nat) (v : Nat → Nat → Nat) : Nat → Bool := fun j => decide (pn_s (fun i => v i j) nb = 0)
def rd_N (nb ng : Nat) (v : Nat → Nat → Nat) : Nat :=
  if nb = 0 then 1 else if ng = 0 then 1 else (pz_fst (rd_row ng v) nb 0).elim ((pz_fst (rd_col nb v) ng 0).elim 0 (fun j => 20 + j)) (fun i => 10 + i)
theorem rd_N0 {nb ng : Nat} {v : Nat → Nat → Nat} : rd_N nb ng v = 0 ↔ pm_rdy nb ng v := by
  have ex : ∀ {f : Nat → Nat} {n : Nat}, ¬ pn_s f n = 0 ↔ ∃ j, j < n ∧ 0 < f j := fun {f n} => by
    rw [pn_s_0]
    constructor
    · intro h
      apply Classical.byContradiction
      intro q
      exact h (fun j hj => by
        apply Classical.byContradiction
        intro e
        exact q ⟨j, hj, by omega⟩)
    · rintro ⟨j, h1, h2⟩ h
      have := h j h1; omega
  unfold rd_N pm_rdy
  by_cases h1 : nb = 0
  · simp [h1]
  · rw [if_neg h1]
    by_cases h2 : ng = 0
    · simp [h2]
    · rw [if_neg h2]
      cases q : pz_fst (rd_row ng v) nb 0 with
      | some i =>
        simp only [Option.elim_some]
        obtain ⟨q1, q2, q3⟩ := pz_fst_some q
        constructor
        · intro h; omega
        · rintro ⟨-, -, h3, -⟩
          have := h3 i (by omega)
          unfold rd_row at q1
          rw [decide_eq_true_iff] at q1
          exact absurd q1 (ex.mpr this)
      | none =>
        simp only [Option.elim_none]
        have r1 := pz_fst_none.mp q
        cases p : pz_fst (rd_col nb v) ng 0 with
        | some j =>
          simp only [Option.elim_some]
          obtain ⟨q1, q2, q3⟩ := pz_fst_some p
          constructor
          · intro h; omega
          · rintro ⟨-, -, -, h4⟩
            have := h4 j (by omega)
            unfold rd_col at q1
            rw [decide_eq_true_iff] at q1
            exact absurd q1 (ex.mpr this)
        | none =>
          simp only [Option.elim_none, true_iff]
          have r2 := pz_fst_none.mp p
          refine ⟨by omega, by omega, fun i hi => ?_, fun j hj => ?_⟩
          · have := r1 i (by omega) (by omega)
            unfold rd_row at this
            rw [decide_eq_false_iff_not] at this
            exact ex.mp this
          · have := r2 j (by omega) (by omega)
            unfold rd_col at this
            rw [decide_eq_false_iff_not] at this
            exact ex.mp this
theorem rd_N_lt {nb ng : Nat} {v : Nat → Nat → Nat} (hb : nb ≤ 3) (hg : ng ≤ 3) : rd_N nb ng v < 30 := by
  unfold rd_N
  split
  · omega
  · split
    · omega
    · cases q : pz_fst (rd_row ng v) nb 0 with
      | some i => obtain ⟨q1, q2, q3⟩ := pz_fst_some q; simp only [Option.elim_some]; omega
      | none =>
        simp only [Option.elim_none]
        cases p : pz_fst (rd_col nb v) ng 0 with
        | some j => obtain ⟨q1, q2, q3⟩ := pz_fst_some p; simp only [Option.elim_some]; omega
        | none => simp only [Option.elim_none]; omega
theorem pr_readiness {rth rps : Int32} {rln : Int64} {vno vpa : Nat → Int32} {vpr vsp : Nat → Int64} {vli vop : Nat → Int32} {vpu vre vpt : Nat → Int64} {vgr vab vbe : Nat → Int32} {nb ng : Nat} {m : Nat → Nat} {v : Nat → Nat → Nat} (hA : pm_A nb ng m v) (hr : pm_R nb ng m v vno) : f_R_readiness rth rps rln vno vpa vpr vsp vli vop vpu vre vpt vgr vab vbe = some (nI (rd_N nb ng v)) := by
  obtain ⟨hb, hg, hm1, hm0, hv9, hv0⟩ := hA
  obtain ⟨r0, r1, r3, r6⟩ := hr
  have in1 : ∀ i, i < nb → gq_it 1000000 (fb_R_readiness_30 rth rps rln vno vpa vpr vsp vli vop vpu vre vpt vgr vab vbe (nI i)) (0, 0) = some (nI (pn_s (fun j => v i j) ng)) := fun i hi => by
    refine pz_for (fun k => (nI k, nI (pn_s (fun j => v i j) k))) 0 ng (by omega) (by omega) (fun k _ hk => ?_) ?_
    · simp only [fb_R_readiness_30, pr_goods r1, Option.bind_some, if_neg (pz_ge hk hg), pr_valueOf (show i < 3 by omega) (show k < 3 by omega) (r6 i k hi hk), nI_1, nI_add, pn_s]
    · simp only [fb_R_readiness_30, pr_goods r1, Option.bind_some, if_pos (pz_le' (Nat.le_refl ng) hg)]
  have in2 : ∀ j, j < ng → gq_it 1000000 (fb_R_readiness_82 rth rps rln vno vpa vpr vsp vli vop vpu vre vpt vgr vab vbe (nI j)) (0, 0) = some (nI (pn_s (fun i => v i j) nb)) := fun j hj => by
    refine pz_for (fun k => (nI k, nI (pn_s (fun i => v i j) k))) 0 nb (by omega) (by omega) (fun k _ hk => ?_) ?_
    · simp only [fb_R_readiness_82, pr_buyers r0, Option.bind_some, if_neg (pz_ge hk hb), pr_valueOf (show k < 3 by omega) (show j < 3 by omega) (r6 k j hk hj), nI_1, nI_add, pn_s]
    · simp only [fb_R_readiness_82, pr_buyers r0, Option.bind_some, if_pos (pz_le' (Nat.le_refl nb) hb)]
  have bd1 : ∀ i, pn_s (fun j => v i j) ng ≤ 27 := fun i => by
    have := @pn_s_le (fun j => v i j) 9 ng (fun j _ => hv9 i j); omega
  have bd2 : ∀ j, pn_s (fun i => v i j) nb ≤ 27 := fun j => by
    have := @pn_s_le (fun i => v i j) 9 nb (fun i _ => hv9 i j); omega
  have z0 : ∀ {n : Nat}, n ≤ 27 → (nI n = 0 ↔ n = 0) := fun {n} h => by
    constructor
    · intro q; apply Classical.byContradiction; intro e; exact nI_ne0 (by omega) (by omega) q
    · intro q; rw [q]; rfl
  have l1 : gq_it 1000000 (fb_R_readiness_18 rth rps rln vno vpa vpr vsp vli vop vpu vre vpt vgr vab vbe) 0 = some ((pz_fst (rd_row ng v) nb 0).elim (.inr ()) (fun i => .inl (nI i))) := by
    refine pz_find (x := Sum.inr ()) nI (fun i => Sum.inl (nI i)) (rd_row ng v) nb 0 1000000 (by omega) (fun k _ hk => ?_) ?_
    · have hk' : k < nb := by omega
      simp only [fb_R_readiness_18, pr_buyers r0, Option.bind_some, if_neg (pz_ge hk' hb), in1 k hk', z0 (bd1 k), nI_1, rd_row, decide_eq_true_iff]
    · simp only [fb_R_readiness_18, pr_buyers r0, Option.bind_some, Nat.zero_add, if_pos (pz_le' (Nat.le_refl nb) hb)]
  have l2 : gq_it 1000000 (fb_R_readiness_70 rth rps rln vno vpa vpr vsp vli vop vpu vre vpt vgr vab vbe) 0 = some ((pz_fst (rd_col nb v) ng 0).elim (.inr ()) (fun i => .inl (nI i))) := by
    refine pz_find (x := Sum.inr ()) nI (fun i => Sum.inl (nI i)) (rd_col nb v) ng 0 1000000 (by omega) (fun k _ hk => ?_) ?_
    · have hk' : k < ng := by omega
      simp only [fb_R_readiness_70, pr_goods r1, Option.bind_some, if_neg (pz_ge hk' hg), in2 k hk', z0 (bd2 k), nI_1, rd_col, decide_eq_true_iff]
    · simp only [fb_R_readiness_70, pr_goods r1, Option.bind_some, Nat.zero_add, if_pos (pz_le' (Nat.le_refl ng) hg)]
  unfold f_R_readiness rd_N
  simp only [pr_buyers r0, pr_goods r1, Option.bind_some, z0 (show nb ≤ 27 by omega), z0 (show ng ≤ 27 by omega), l1, l2]
  by_cases h1 : nb = 0
  · rw [if_pos h1, if_pos h1]; rfl
  · rw [if_neg h1, if_neg h1]
    by_cases h2 : ng = 0
    · rw [if_pos h2, if_pos h2]; rfl
    · rw [if_neg h2, if_neg h2]
      cases pz_fst (rd_row ng v) nb 0 with
      | some i => simp only [Option.elim_some, gq_e]; rw [show (10 : Int32) = nI 10 from rfl, nI_add]
      | none =>
        simp only [Option.elim_none, gq_e]
        cases pz_fst (rd_col nb v) ng 0 with
        | some j => simp only [Option.elim_some]; rw [show (20 : Int32) = nI 20 from rfl, nI_add]
        | none => simp only [Option.elim_none]; rfl
def rd_or (ng : Nat) (v : Nat → Nat → Nat) : Nat → Nat
  | 0 => 0
  | k + 1 => rd_or ng v k ||| pd_set (fun j => decide (0 < v k j)) ng
theorem rd_or_lt {ng : Nat} {v : Nat → Nat → Nat} (hg : ng ≤ 3) : ∀ {k : Nat}, rd_or ng v k < 8
  | 0 => by simp [rd_or]
  | k + 1 => (sg_or8 _ (@rd_or_lt ng v hg k) _ (Nat.lt_of_lt_of_le (pd_set_lt hg) (pz_p2 ng hg))).1
theorem rd_or_bit {ng : Nat} {v : Nat → Nat → Nat} (hg : ng ≤ 3) {j : Nat} (hj : j < ng) : ∀ {k : Nat}, pz_S (rd_or ng v k) j = false ↔ ∀ i, i < k → v i j = 0
  | 0 => by simp [rd_or, pz_S]
  | k + 1 => by
    have ih := @rd_or_bit ng v hg j hj k
    rw [rd_or, sg_orS, Bool.or_eq_false_iff, ih, pd_set_bit hg (show j < 3 by omega)]
    simp only [show j < ng from hj, decide_true, Bool.true_and, decide_eq_false_iff_not]
    constructor
    · rintro ⟨h1, h2⟩ i hi
      by_cases e : i = k
      · rw [e]; omega
      · exact h1 i (by omega)
    · intro h
      exact ⟨fun i hi => h i (by omega), by have := h k (by omega); omega⟩
theorem pk_ready {nb ng c : Nat} {krg : Nat → Option Nat} {kun mso : Int32} {mun : Int64} {mpu mwo : Nat → Int32} {m : Nat → Nat} {v : Nat → Nat → Nat} (hA : pm_A nb ng m v) (hc : c < 9) (hv : ∀ i j, i < nb → j < ng → mwo (3 * i + j) = nI (v i j)) : f_K_ready krg (nI c) kun (nI nb) (nI ng) mpu mwo mso mun = some (nI (rd_N nb ng v)) := by
  obtain ⟨hb, hg, hm1, hm0, hv9, hv0⟩ := hA
  have z0 : ∀ {n : Nat}, n ≤ 27 → (nI n = 0 ↔ n = 0) := fun {n} h => by
    constructor
    · intro q; apply Classical.byContradiction; intro e; exact nI_ne0 (by omega) (by omega) q
    · intro q; rw [q]; rfl
  have hset : ∀ i, (pd_set (fun j => decide (0 < v i j)) ng = 0 ↔ pn_s (fun j => v i j) ng = 0) := fun i => by
    have h8 : pd_set (fun j => decide (0 < v i j)) ng < 8 := Nat.lt_of_lt_of_le (pd_set_lt hg) (pz_p2 ng hg)
    have hn := sg_ne0 _ h8
    rw [pn_s_0]
    constructor
    · intro h j hj
      apply Classical.byContradiction
      intro e
      refine hn.mpr ⟨j, by omega, ?_⟩ h
      rw [pd_set_bit hg (by omega)]; simp [hj, show 0 < v i j by omega]
    · intro h
      apply Classical.byContradiction
      intro e
      obtain ⟨j, j1, j2⟩ := hn.mp e
      rw [pd_set_bit hg j1] at j2
      simp only [Bool.and_eq_true, decide_eq_true_iff] at j2
      have := h j j2.1; omega
  have l1 : gq_it 1000000 (fb_K_ready_30 (nI nb) (nI ng) mpu mwo mso mun) (0, 0) = some ((pz_fst (rd_row ng v) nb 0).elim (.inr (nI (rd_or ng v nb))) (fun i => .inl (nI i))) := by
    refine pz_find (x := Sum.inr (nI (rd_or ng v nb))) (fun k => (nI k, nI (rd_or ng v k))) (fun i => Sum.inl (nI i)) (rd_row ng v) nb 0 1000000 (by omega) (fun k _ hk => ?_) ?_
    · have hk' : k < nb := by omega
      have h8 : pd_set (fun j => decide (0 < v k j)) ng < 8 := Nat.lt_of_lt_of_le (pd_set_lt hg) (pz_p2 ng hg)
      simp only [fb_K_ready_30, if_neg (pz_ge hk' hb), ps_wantedBy hb hg hv hv9 hk', Option.bind_some, z0 (show pd_set (fun j => decide (0 < v k j)) ng ≤ 27 by omega), hset k, nI_1, rd_row, decide_eq_true_iff, (sg_or8 _ (@rd_or_lt ng v hg k) _ h8).2, rd_or]
    · simp only [fb_K_ready_30, Nat.zero_add, if_pos (pz_le' (Nat.le_refl nb) hb)]
  have l2 : gq_it 1000000 (fb_K_ready_68 (nI ng) (nI (rd_or ng v nb))) 0 = some ((pz_fst (rd_col nb v) ng 0).elim (.inr ()) (fun i => .inl (nI i))) := by
    refine pz_find (x := Sum.inr ()) nI (fun i => Sum.inl (nI i)) (rd_col nb v) ng 0 1000000 (by omega) (fun k _ hk => ?_) ?_
    · have hk' : k < ng := by omega
      have hu := @rd_or_lt ng v hg nb
      have hb' := @rd_or_bit ng v hg k hk' nb
      simp only [fb_K_ready_68, if_neg (pz_ge hk' hg), pz_has' (show rd_or ng v nb < 512 by omega) (show k < 9 by omega), Option.bind_some, nI_1, rd_col, decide_eq_true_iff]
      rw [← @pn_s_0 (fun i => v i k) nb] at hb'
      cases q : pz_S (rd_or ng v nb) k
      · rw [if_pos (hb'.mp q)]; simp
      · have hne : ¬ pn_s (fun i => v i k) nb = 0 := fun e => by rw [hb'.mpr e] at q; cases q
        simp only [if_true, if_neg (show ¬ (1 : Int32) = 0 by decide), if_neg hne]
    · simp only [fb_K_ready_68, Nat.zero_add, if_pos (pz_le' (Nat.le_refl ng) hg)]
  unfold f_K_ready rd_N
  simp only [pz_g hc, z0 (show nb ≤ 27 by omega), z0 (show ng ≤ 27 by omega), l1]
  by_cases h1 : nb = 0
  · rw [if_pos h1, if_pos h1]; rfl
  · rw [if_neg h1, if_neg h1]
    by_cases h2 : ng = 0
    · rw [if_pos h2, if_pos h2]; rfl
    · rw [if_neg h2, if_neg h2]
      cases pz_fst (rd_row ng v) nb 0 with
      | some i => simp only [Option.elim_some, gq_e, Option.bind_some]; rw [show (10 : Int32) = nI 10 from rfl, nI_add]
      | none =>
        simp only [Option.elim_none, gq_e, Option.bind_some, l2]
        cases pz_fst (rd_col nb v) ng 0 with
        | some j => simp only [Option.elim_some]; rw [show (20 : Int32) = nI 20 from rfl, nI_add]
        | none => simp only [Option.elim_none]; rfl
/-! Pure part 30: the state's invariant; a change begun. -/
theorem pz_t0 : Int32.toNatClampNeg 0 = 0 := by decide
theorem pz_t1 : Int32.toNatClampNeg 1 = 1 := by decide
theorem pz_t2 : Int32.toNatClampNeg 2 = 2 := by decide
theorem pz_t3 : Int32.toNatClampNeg 3 = 3 := by decide
theorem pz_t9 : Int32.toNatClampNeg 9 = 9 := by decide
theorem pk_begun {c u nb ng : Nat} {krg : Nat → Option Nat} {mbu2 mgo2 mso mso2 : Int32} {mun mun2 : Int64} {mpu mwo mpu2 mwo2 : Nat → Int32} (hc : c < 9) (hu : u ≤ 8) :
    f_K_begunChange krg (nI c) (nI u) (nI nb) (nI ng) mpu mwo mso mun mbu2 mgo2 mpu2 mwo2 mso2 mun2 = some (nI ((c + 1) % 9), nI (min (u + 1) 8), nI nb, nI ng, va_cpy mpu mpu2 0 0 3, va_cpy mwo mwo2 0 0 9, 0) := by
  have e8 : (8 : Int32) = nI 8 := rfl
  have em : f_J_min_III (nI (u + 1)) (nI 8) = some (nI (min (u + 1) 8)) := by
    unfold f_J_min_III
    by_cases h : u = 8
    · subst h; rw [if_pos (nI_lt (by omega) (by omega))]; rfl
    · rw [if_neg (nI_nlt (by omega) (by omega)), Nat.min_eq_left (by omega)]
  unfold f_K_begunChange
  simp only [pz_g hc, em, Option.bind_some, f_M_takeOver, pz_t0, pz_t3, pz_t9, e8, nI_eq (show c < 2 ^ 31 by omega) (show 8 < 2 ^ 31 by omega), nI_1]
  by_cases h : c = 8
  · subst h
    rw [if_pos rfl]
    rfl
  · rw [if_neg h, pz_g (show c + 1 < 9 by omega), pz_g (show c + 1 < 9 by omega), Nat.mod_eq_of_lt (show c + 1 < 9 by omega)]
theorem pz_c15 {u k : Nat} : 15 * nI u + nI k = nI (15 * u + k) := by
  rw [show (15 : Int32) = nI 15 from rfl, pk_mul, nI_add]
theorem pr_keep50 {u : Nat} {vno vpa : Nat → Int32} (hu : u < 8) : gq_it 1000000 (fb_R_keep_50 (nI u) vno) (0, vpa) = some (fun y => if 15 * u ≤ y ∧ y < 15 * u + 15 then vno (y - 15 * u) else vpa y) := by
  have e0 : ((0 : Int32), vpa) = (nI 0, fun y => if 15 * u ≤ y ∧ y < 15 * u + 0 then vno (y - 15 * u) else vpa y) := by
    refine Prod.ext rfl ?_
    funext y
    simp only
    rw [if_neg (by omega)]
  rw [e0]
  refine pz_for (fun k => (nI k, fun y => if 15 * u ≤ y ∧ y < 15 * u + k then vno (y - 15 * u) else vpa y)) 0 15 (by omega) (by omega) (fun k _ hk => ?_) ?_
  · simp only [fb_R_keep_50, if_neg (show ¬ (15 : Int32) ≤ nI k from nI_ge (b := 15) hk (by omega)), pz_g hk, pz_c15, pz_g (show 15 * u + k < 120 by omega), pz_c (n := k) (by omega), pz_c (n := 15 * u + k) (by omega), nI_1]
    congr 3
    funext y
    unfold upd
    by_cases e : y = 15 * u + k
    · subst e
      rw [if_pos rfl, if_pos (by omega)]; congr 1; omega
    · rw [if_neg e]
      show (if 15 * u ≤ y ∧ y < 15 * u + k then vno (y - 15 * u) else vpa y) = _
      by_cases h : 15 * u ≤ y ∧ y < 15 * u + k
      · rw [if_pos h, if_pos (by omega)]
      · rw [if_neg h, if_neg (by omega)]
  · simp only [fb_R_keep_50]
    rw [if_pos (show (15 : Int32) ≤ nI 15 from nI_le (a := 15) (Nat.le_refl 15) (by omega))]
theorem pr_keep11 {vpa : Nat → Int32} : gq_it 1000000 fb_R_keep_11 (0, vpa) = some (fun y => if y < 105 then vpa (y + 15) else vpa y) := by
  refine pz_for (fun k => (nI k, fun y => if y < k then vpa (y + 15) else vpa y)) 0 105 (by omega) (by omega) (fun k _ hk => ?_) ?_
  · have u := @pz_updI (fun y => vpa (y + 15)) vpa k
    have e15 : nI k + 15 = nI (k + 15) := by rw [show (15 : Int32) = nI 15 from rfl, nI_add]
    simp only [fb_R_keep_11, if_neg (show ¬ (105 : Int32) ≤ nI k from nI_ge (b := 105) hk (by omega)), e15, pz_g (show k + 15 < 120 by omega), pz_g (show k < 120 by omega), pz_c (n := k) (by omega), pz_c (n := k + 15) (by omega), nI_1, show ¬ k + 15 < k by omega, if_false]
    rw [u]
  · simp only [fb_R_keep_11]
    rw [if_pos (show (105 : Int32) ≤ nI 105 from nI_le (a := 105) (Nat.le_refl 105) (by omega))]
theorem pr_keep {rth rps : Int32} {rln : Int64} {vno vpa : Nat → Int32} {vpr vsp : Nat → Int64} {vli vop : Nat → Int32} {vpu vre vpt : Nat → Int64} {vgr vab vbe : Nat → Int32} {u : Nat} (hu : u ≤ 8) (hp : rps = nI u) :
    ∃ vpa', f_R_keep rth rps rln vno vpa vpr vsp vli vop vpu vre vpt vgr vab vbe = some (nI (min (u + 1) 8), upd vno 2 0, vpa') ∧ ∀ k x, 1 ≤ k → k ≤ min (u + 1) 8 → x < 15 → vpa' (15 * (min (u + 1) 8 - k) + x) = if k = 1 then vno x else vpa (15 * (u - (k - 1)) + x) := by
  subst hp
  have e8 : (8 : Int32) = nI 8 := rfl
  have g2 : ∀ {α : Type} (t : Option α), gq_g (2 : Int32) 15 t = t := fun t => pz_g (k := 2) (by omega)
  unfold f_R_keep
  by_cases h : u = 8
  · subst h
    have e7 : nI 8 - 1 = nI 7 := rfl
    have e50 : ∀ z, fb_R_keep_50_2 (nI 8) vno z = fb_R_keep_50 (nI 7) vno z := fun z => rfl
    rw [if_pos (show nI 8 = 8 from rfl), pr_keep11, Option.bind_some, funext e50, pr_keep50 (by omega), Option.bind_some, g2, pz_t2]
    refine ⟨_, rfl, fun k x h1 h2 hx => ?_⟩
    rw [show min (8 + 1) 8 = 8 from rfl] at h2 ⊢
    by_cases e : k = 1
    · subst e; rw [if_pos (by omega), if_pos rfl]; congr 1; omega
    · rw [if_neg (by omega), if_pos (by omega), if_neg e]; congr 1; omega
  · rw [if_neg (by rw [e8, nI_eq (by omega) (by omega)]; exact h), pr_keep50 (by omega), Option.bind_some, g2, pz_t2, nI_1, Nat.min_eq_left (by omega)]
    refine ⟨_, rfl, fun k x h1 h2 hx => ?_⟩
    by_cases e : k = 1
    · subst e; rw [if_pos (by omega), if_pos rfl]; congr 1; omega
    · rw [if_neg (by omega), if_neg e]; congr 1; omega
/-- a solved market of the desk -/
def pm_Sv (nb ng : Nat) (m : Nat → Nat) (v : Nat → Nat → Nat) (un : Int64) (ab be sh : Nat → Int64) : Prop :=
  pm_rdy nb ng v ∧ ∃ a d : Nat → Int, ps_Ok nb ng m v a d ∧ un = pz (pd_U d ng) ∧ (∀ j, j < ng → ab j = pz (a j) ∧ be j = pz (d j)) ∧ ∀ i j, i < nb → j < ng → sh (3 * i + j) = pz (pv_X nb ng m v (pd_U d ng) (pd_c a d ng) (3 * i + j))
/-- a solved row of the reference -/
def pm_Sr (nb ng : Nat) (m : Nat → Nat) (v : Nat → Nat → Nat) (rln : Int64) (vpr vsp : Nat → Int64) (vli : Nat → Int32) : Prop :=
  ∃ (U : Int) (p : Nat → Int), rln = pz U ∧ (∀ j, j < ng → vpr j = pz (p j)) ∧ mq_F nb ng (fun i j => v i j) (fun i => m i) U p ∧ U ≤ 14348907 ∧ (∀ j, p j ≤ 69735688020) ∧ (∀ i j, i < nb → j < ng → vli (3 * i + j) = pz_B (mq_L nb ng (fun i j => v i j) p i j)) ∧ (∀ i j, i < nb → j < ng → vsp (3 * i + j) = pz (pv_X nb ng m v U p (3 * i + j)))
/-- a market of the desk and a row of the reference tell the same -/
def pm_B (nb ng : Nat) (m : Nat → Nat) (v : Nat → Nat → Nat) (bu go : Int32) (pu wo : Nat → Int32) (so : Int32) (un : Int64) (ab be sh : Nat → Int64) (row : Nat → Int32) : Prop :=
  pm_A nb ng m v ∧ bu = nI nb ∧ go = nI ng ∧ (∀ i, i < nb → pu i = nI (m i)) ∧ (∀ i j, i < 3 → j < 3 → wo (3 * i + j) = nI (v i j)) ∧ pm_R nb ng m v row ∧ ((so = 0 ∧ row 2 = 0) ∨ (so = 1 ∧ row 2 = 1 ∧ pm_Sv nb ng m v un ab be sh))
def pm_Rel (bu go : Int32) (pu wo : Nat → Int32) (so : Int32) (un : Int64) (ab be sh : Nat → Int64) (row : Nat → Int32) : Prop := ∃ nb ng m v, pm_B nb ng m v bu go pu wo so un ab be sh row
def pm_T (tab tbe : Nat → Int64) (vab vbe : Nat → Int32) : Prop := ∃ ta tb : Nat → Nat, ∀ j, j < 3 → 1 ≤ ta j ∧ ta j ≤ 100000 ∧ 1 ≤ tb j ∧ tb j ≤ 100000 ∧ tab j = pz (ta j) ∧ tbe j = pz (tb j) ∧ vab j = nI (ta j) ∧ vbe j = nI (tb j)
theorem pm_Rel_row {bu go : Int32} {pu wo : Nat → Int32} {so : Int32} {un : Int64} {ab be sh : Nat → Int64} {row row' : Nat → Int32} (h : pm_Rel bu go pu wo so un ab be sh row) (he : ∀ x, x < 15 → row' x = row x) : pm_Rel bu go pu wo so un ab be sh row' := by
  obtain ⟨nb, ng, m, v, hA, h1, h2, h3, h4, ⟨r0, r1, r3, r6⟩, h6⟩ := h
  have hb := hA.1
  have hg := hA.2.1
  refine ⟨nb, ng, m, v, hA, h1, h2, h3, h4, ⟨by rw [he 0 (by omega)]; exact r0, by rw [he 1 (by omega)]; exact r1, fun i hi => by rw [he _ (by omega)]; exact r3 i hi, fun i j hi hj => by rw [he _ (by omega)]; exact r6 i j hi hj⟩, ?_⟩
  rw [he 2 (by omega)]; exact h6
/-- the invariant: c is the place of now in the ring, u the number of steps that can be undone -/
def pzI (kno kun : Int32) (mbu mgo : Nat → Int32) (mpu mwo : Nat → Nat → Int32) (mso : Nat → Int32) (mun : Nat → Int64) (pab pbe hsh : Nat → Nat → Int64) (tab tbe : Nat → Int64) (rps : Int32) (rln : Int64) (vno vpa : Nat → Int32) (vpr vsp : Nat → Int64) (vli vab vbe : Nat → Int32) : Prop :=
  ∃ c u, c < 9 ∧ u ≤ 8 ∧ kno = nI c ∧ kun = nI u ∧ rps = nI u ∧
    (∃ nb ng m v, pm_B nb ng m v (mbu c) (mgo c) (mpu c) (mwo c) (mso c) (mun c) (pab c) (pbe c) (hsh c) vno ∧ (vno 2 = 1 → pm_Sr nb ng m v rln vpr vsp vli)) ∧
    (∀ k, 1 ≤ k → k ≤ u → pm_Rel (mbu ((c + 9 - k) % 9)) (mgo ((c + 9 - k) % 9)) (mpu ((c + 9 - k) % 9)) (mwo ((c + 9 - k) % 9)) (mso ((c + 9 - k) % 9)) (mun ((c + 9 - k) % 9)) (pab ((c + 9 - k) % 9)) (pbe ((c + 9 - k) % 9)) (hsh ((c + 9 - k) % 9)) (fun x => vpa (15 * (u - k) + x))) ∧
    pm_T tab tbe vab vbe
def pu {α : Type} (f : Nat → α) (j : Nat) (x : α) : Nat → α := fun i => if i = j then x else f i
theorem pu_s {α : Type} {f : Nat → α} {j : Nat} {x : α} : pu f j x j = x := if_pos rfl
theorem pu_n {α : Type} {f : Nat → α} {i j : Nat} {x : α} (h : i ≠ j) : pu f j x i = f i := if_neg h
theorem pu_id {α : Type} {f : Nat → α} {j : Nat} : pu f j (f j) = f := by
  funext i; unfold pu; split
  · rename_i h; rw [h]
  · rfl
/-- a change: the new market lies at the next place, unsolved -/
theorem pI_change {c u : Nat} {mbu mgo : Nat → Int32} {mpu mwo : Nat → Nat → Int32} {mso : Nat → Int32} {mun : Nat → Int64} {pab pbe hsh : Nat → Nat → Int64} {tab tbe : Nat → Int64} {rln : Int64} {vno vpa vno' vpa' : Nat → Int32} {vpr vsp : Nat → Int64} {vli vab vbe : Nat → Int32} {nb ng nb' ng' : Nat} {m m' : Nat → Nat} {v v' : Nat → Nat → Nat} {pu' wo' : Nat → Int32}
    (hc : c < 9) (hu : u ≤ 8) (hB : pm_B nb ng m v (mbu c) (mgo c) (mpu c) (mwo c) (mso c) (mun c) (pab c) (pbe c) (hsh c) vno)
    (hK : ∀ k, 1 ≤ k → k ≤ u → pm_Rel (mbu ((c + 9 - k) % 9)) (mgo ((c + 9 - k) % 9)) (mpu ((c + 9 - k) % 9)) (mwo ((c + 9 - k) % 9)) (mso ((c + 9 - k) % 9)) (mun ((c + 9 - k) % 9)) (pab ((c + 9 - k) % 9)) (pbe ((c + 9 - k) % 9)) (hsh ((c + 9 - k) % 9)) (fun x => vpa (15 * (u - k) + x))) (hT : pm_T tab tbe vab vbe)
    (hv : ∀ k x, 1 ≤ k → k ≤ min (u + 1) 8 → x < 15 → vpa' (15 * (min (u + 1) 8 - k) + x) = if k = 1 then vno x else vpa (15 * (u - (k - 1)) + x))
    (hA : pm_A nb' ng' m' v') (hp : ∀ i, i < nb' → pu' i = nI (m' i)) (hw : ∀ i j, i < 3 → j < 3 → wo' (3 * i + j) = nI (v' i j)) (hr : pm_R nb' ng' m' v' vno') (h2 : vno' 2 = 0) :
    pzI (nI ((c + 1) % 9)) (nI (min (u + 1) 8)) (pu mbu ((c + 1) % 9) (nI nb')) (pu mgo ((c + 1) % 9) (nI ng')) (pu mpu ((c + 1) % 9) pu') (pu mwo ((c + 1) % 9) wo') (pu mso ((c + 1) % 9) 0) mun pab pbe hsh tab tbe (nI (min (u + 1) 8)) rln vno' vpa' vpr vsp vli vab vbe := by
  refine ⟨(c + 1) % 9, min (u + 1) 8, by omega, by omega, rfl, rfl, rfl, ⟨nb', ng', m', v', ⟨hA, pu_s, pu_s, fun i hi => by rw [pu_s]; exact hp i hi, fun i j hi hj => by rw [pu_s]; exact hw i j hi hj, hr, Or.inl ⟨pu_s, h2⟩⟩, fun h => by rw [h2] at h; cases h⟩, fun k h1 h3 => ?_, hT⟩
  have hne : ((c + 1) % 9 + 9 - k) % 9 ≠ (c + 1) % 9 := by omega
  rw [pu_n hne, pu_n hne, pu_n hne, pu_n hne, pu_n hne]
  by_cases e : k = 1
  · subst e
    have ec : ((c + 1) % 9 + 9 - 1) % 9 = c := by omega
    rw [ec]
    exact pm_Rel_row ⟨nb, ng, m, v, hB⟩ (fun x hx => by rw [hv 1 x (by omega) h3 hx, if_pos rfl])
  · have ec : ((c + 1) % 9 + 9 - k) % 9 = (c + 9 - (k - 1)) % 9 := by omega
    rw [ec]
    exact pm_Rel_row (hK (k - 1) (by omega) (by omega)) (fun x hx => by rw [hv k x (by omega) h3 hx, if_neg e])
/-! Pure part 31: the rounds of buyer, good, money, value. -/
theorem pk_t : (0 : Int32).toInt = 0 ∧ (1 : Int32).toInt = 1 ∧ (2 : Int32).toInt = 2 ∧ (3 : Int32).toInt = 3 ∧ (9 : Int32).toInt = 9 ∧ (20 : Int32).toInt = 20 ∧ (21 : Int32).toInt = 21 ∧ (100000 : Int32).toInt = 100000 ∧ (-1 : Int32).toInt = -1 := by decide
theorem pk_rng (a : Int32) {lo hi : Nat} (hh : hi < 2 ^ 31) : a.toInt < lo ∨ (hi : Int) < a.toInt ∨ ∃ n, lo ≤ n ∧ n ≤ hi ∧ a = nI n := by
  by_cases h1 : a.toInt < lo
  · exact Or.inl h1
  · by_cases h2 : (hi : Int) < a.toInt
    · exact Or.inr (Or.inl h2)
    · have e := nI_toInt (n := a.toInt.toNat) (by omega)
      refine Or.inr (Or.inr ⟨a.toInt.toNat, by omega, by omega, ?_⟩)
      apply Int32.toInt_inj.mp
      rw [e]; omega
theorem pj_lt {a b : Int32} : a < b ↔ a.toInt < b.toInt := Int32.lt_iff_toInt_lt
theorem pj_le {a b : Int32} : a ≤ b ↔ a.toInt ≤ b.toInt := Int32.le_iff_toInt_le
/-- within lo .. hi, or refused -/
theorem pk_within (a : Int32) {lo hi : Nat} (hh : hi < 2 ^ 31) (hl : lo ≤ hi) : (f_K_needWithin a (nI lo) (nI hi) = some (.inr "java/lang/IllegalArgumentException") ∧ (a.toInt < lo ∨ (hi : Int) < a.toInt)) ∨ (∃ n, lo ≤ n ∧ n ≤ hi ∧ a = nI n ∧ f_K_needWithin a (nI lo) (nI hi) = some (.inl ())) := by
  have e1 := nI_toInt (n := lo) (by omega)
  have e2 := nI_toInt hh
  unfold f_K_needWithin
  rcases pk_rng a (lo := lo) hh with h | h | ⟨n, h1, h2, h3⟩
  · left; refine ⟨?_, Or.inl h⟩
    rw [if_pos (by rw [pj_lt, e1]; exact h)]
  · left; refine ⟨?_, Or.inr h⟩
    rw [if_neg (by rw [pj_lt, e1]; omega), if_neg (by rw [pj_le, e2]; omega)]
  · right
    have e3 := nI_toInt (n := n) (by omega)
    refine ⟨n, h1, h2, h3, ?_⟩
    rw [h3, if_neg (by rw [pj_lt, e1, e3]; omega), if_pos (by rw [pj_le, e2, e3]; omega)]
theorem pr_isMoney0 {a : Int32} (h : a.toInt < 1 ∨ 20 < a.toInt) : f_R_isMoney a = some 0 := by
  obtain ⟨t0, t1, t2, t3, t9, t20, t21, tk, tm⟩ := pk_t
  unfold f_R_isMoney
  rcases h with h | h
  · rw [if_pos (by rw [pj_le, t0]; omega)]
  · rw [if_neg (by rw [pj_le, t0]; omega), if_pos (by rw [pj_le, t21]; omega)]
theorem pr_isMoney1 {n : Nat} (h1 : 1 ≤ n) (h2 : n ≤ 20) : f_R_isMoney (nI n) = some 1 := by
  obtain ⟨t0, t1, t2, t3, t9, t20, t21, tk, tm⟩ := pk_t
  have e3 := nI_toInt (n := n) (by omega)
  unfold f_R_isMoney
  rw [if_neg (by rw [pj_le, t0, e3]; omega), if_neg (by rw [pj_le, t21, e3]; omega)]
/-- a place below n, or refused: desk and reference alike -/
theorem pk_idx (a : Int32) {n : Nat} (hn : n ≤ 3) : (a.toInt < 0 ∨ (n : Int) ≤ a.toInt) ∨ ∃ j, j < n ∧ a = nI j := by
  rcases pk_rng a (lo := 0) (hi := n) (by omega) with h | h | ⟨j, h1, h2, h3⟩
  · left; left; omega
  · left; right; omega
  · by_cases e : j = n
    · left; right; rw [h3, nI_toInt (by omega)]; omega
    · right; exact ⟨j, by omega, h3⟩
theorem pk_needBuyer {krg : Nat → Option Nat} {kun mgo mso : Int32} {mun : Int64} {mpu mwo : Nat → Int32} {c nb : Nat} (hc : c < 9) (hn : nb ≤ 3) (a : Int32) : ((a.toInt < 0 ∨ (nb : Int) ≤ a.toInt) → f_K_needBuyer krg (nI c) kun (nI nb) mgo mpu mwo mso mun a = some (.inr "java/lang/IndexOutOfBoundsException")) ∧ (∀ j, j < nb → a = nI j → f_K_needBuyer krg (nI c) kun (nI nb) mgo mpu mwo mso mun a = some (.inl ())) := by
  obtain ⟨t0, t1, t2, t3, t9, t20, t21, tk, tm⟩ := pk_t
  have e := nI_toInt (n := nb) (by omega)
  unfold f_K_needBuyer
  rw [pz_g hc]
  constructor
  · intro h
    by_cases h0 : a.toInt < 0
    · rw [if_pos (by rw [pj_lt, t0]; exact h0)]
    · rw [if_neg (by rw [pj_lt, t0]; exact h0), if_neg (by rw [pj_lt, e]; omega)]
  · intro j hj ha
    have e3 := nI_toInt (n := j) (by omega)
    rw [ha, if_neg (by rw [pj_lt, t0, e3]; omega), if_pos (by rw [pj_lt, e, e3]; omega)]
theorem pk_needGood {krg : Nat → Option Nat} {kun mbu mso : Int32} {mun : Int64} {mpu mwo : Nat → Int32} {c ng : Nat} (hc : c < 9) (hn : ng ≤ 3) (a : Int32) : ((a.toInt < 0 ∨ (ng : Int) ≤ a.toInt) → f_K_needGood krg (nI c) kun mbu (nI ng) mpu mwo mso mun a = some (.inr "java/lang/IndexOutOfBoundsException")) ∧ (∀ j, j < ng → a = nI j → f_K_needGood krg (nI c) kun mbu (nI ng) mpu mwo mso mun a = some (.inl ())) := by
  obtain ⟨t0, t1, t2, t3, t9, t20, t21, tk, tm⟩ := pk_t
  have e := nI_toInt (n := ng) (by omega)
  unfold f_K_needGood
  rw [pz_g hc]
  constructor
  · intro h
    by_cases h0 : a.toInt < 0
    · rw [if_pos (by rw [pj_lt, t0]; exact h0)]
    · rw [if_neg (by rw [pj_lt, t0]; exact h0), if_neg (by rw [pj_lt, e]; omega)]
  · intro j hj ha
    have e3 := nI_toInt (n := j) (by omega)
    rw [ha, if_neg (by rw [pj_lt, t0, e3]; omega), if_pos (by rw [pj_lt, e, e3]; omega)]
theorem pr_isBuyer {rth rps : Int32} {rln : Int64} {vno vpa : Nat → Int32} {vpr vsp : Nat → Int64} {vli vop : Nat → Int32} {vpu vre vpt : Nat → Int64} {vgr vab vbe : Nat → Int32} {nb : Nat} (hn : nb ≤ 3) (h0 : vno 0 = nI nb) (a : Int32) : ((a.toInt < 0 ∨ (nb : Int) ≤ a.toInt) → f_R_isBuyer rth rps rln vno vpa vpr vsp vli vop vpu vre vpt vgr vab vbe a = some 0) ∧ (∀ j, j < nb → a = nI j → f_R_isBuyer rth rps rln vno vpa vpr vsp vli vop vpu vre vpt vgr vab vbe a = some 1) := by
  obtain ⟨t0, t1, t2, t3, t9, t20, t21, tk, tm⟩ := pk_t
  have e := nI_toInt (n := nb) (by omega)
  unfold f_R_isBuyer
  rw [pr_buyers h0, Option.bind_some]
  constructor
  · intro h
    by_cases h0 : a.toInt < 0
    · rw [if_pos (by rw [pj_lt, t0]; exact h0)]
    · rw [if_neg (by rw [pj_lt, t0]; exact h0), if_pos (by rw [pj_le, e]; omega)]
  · intro j hj ha
    have e3 := nI_toInt (n := j) (by omega)
    rw [ha, if_neg (by rw [pj_lt, t0, e3]; omega), if_neg (by rw [pj_le, e, e3]; omega)]
theorem pr_isGood {rth rps : Int32} {rln : Int64} {vno vpa : Nat → Int32} {vpr vsp : Nat → Int64} {vli vop : Nat → Int32} {vpu vre vpt : Nat → Int64} {vgr vab vbe : Nat → Int32} {ng : Nat} (hn : ng ≤ 3) (h0 : vno 1 = nI ng) (a : Int32) : ((a.toInt < 0 ∨ (ng : Int) ≤ a.toInt) → f_R_isGood rth rps rln vno vpa vpr vsp vli vop vpu vre vpt vgr vab vbe a = some 0) ∧ (∀ j, j < ng → a = nI j → f_R_isGood rth rps rln vno vpa vpr vsp vli vop vpu vre vpt vgr vab vbe a = some 1) := by
  obtain ⟨t0, t1, t2, t3, t9, t20, t21, tk, tm⟩ := pk_t
  have e := nI_toInt (n := ng) (by omega)
  unfold f_R_isGood
  rw [pr_goods h0, Option.bind_some]
  constructor
  · intro h
    by_cases h0 : a.toInt < 0
    · rw [if_pos (by rw [pj_lt, t0]; exact h0)]
    · rw [if_neg (by rw [pj_lt, t0]; exact h0), if_pos (by rw [pj_le, e]; omega)]
  · intro j hj ha
    have e3 := nI_toInt (n := j) (by omega)
    rw [ha, if_neg (by rw [pj_lt, t0, e3]; omega), if_neg (by rw [pj_le, e, e3]; omega)]
theorem pr_zero3 {n : Nat} {f : Nat → Int32} (hn : n < 3) : gq_it 1000000 (fb_R_buyer_57 (nI n)) (0, f) = some (fun x => if 6 + 3 * n ≤ x ∧ x < 6 + 3 * n + 3 then 0 else f x) := by
  have e0 : ((0 : Int32), f) = (nI 0, fun x => if 6 + 3 * n ≤ x ∧ x < 6 + 3 * n + 0 then 0 else f x) := by
    refine Prod.ext rfl ?_
    funext y
    simp only
    rw [if_neg (by omega)]
  rw [e0]
  refine pz_for (fun k => (nI k, fun x => if 6 + 3 * n ≤ x ∧ x < 6 + 3 * n + k then 0 else f x)) 0 3 (by omega) (by omega) (fun k _ hk => ?_) ?_
  · simp only [fb_R_buyer_57, if_neg (show ¬ (3 : Int32) ≤ nI k from nI_ge (b := 3) hk (by omega)), pz_row, pz_g (show 6 + 3 * n + k < 15 by omega), pz_c (n := 6 + 3 * n + k) (by omega), nI_1]
    congr 3
    funext y
    unfold upd
    by_cases e : y = 6 + 3 * n + k
    · subst e; rw [if_pos rfl, if_pos (by omega)]
    · rw [if_neg e]
      show (if 6 + 3 * n ≤ y ∧ y < 6 + 3 * n + k then 0 else f y) = _
      by_cases h : 6 + 3 * n ≤ y ∧ y < 6 + 3 * n + k
      · rw [if_pos h, if_pos (by omega)]
      · rw [if_neg h, if_neg (by omega)]
  · simp only [fb_R_buyer_57]
    rw [if_pos (show (3 : Int32) ≤ nI 3 from nI_le (a := 3) (Nat.le_refl 3) (by omega))]
theorem pr_zeroc {n : Nat} {f : Nat → Int32} (hn : n < 3) : ∃ r, gq_it 1000000 (fb_R_good_37 (nI n)) (0, f) = some r ∧ (∀ i, i < 3 → r (6 + 3 * i + n) = 0) ∧ (∀ x, (∀ i, i < 3 → x ≠ 6 + 3 * i + n) → r x = f x) := by
  refine pz_invM (fun k z => z.1 = nI k ∧ (∀ i, i < k → z.2 (6 + 3 * i + n) = 0) ∧ (∀ x, (∀ i, i < 3 → x ≠ 6 + 3 * i + n) → z.2 x = f x)) 0 3 (by omega) (by omega) ⟨rfl, fun i h => by omega, fun x _ => rfl⟩ (fun k z hk hz => ?_) (fun z hz => ?_)
  · obtain ⟨z1, z2, z3⟩ := hz
    simp only [fb_R_good_37, z1, if_neg (show ¬ (3 : Int32) ≤ nI k from nI_ge (b := 3) hk (by omega)), pz_row, pz_g (show 6 + 3 * k + n < 15 by omega), pz_c (n := 6 + 3 * k + n) (by omega), nI_1]
    refine ⟨_, rfl, rfl, fun i hi => ?_, fun x hx => ?_⟩
    · show upd z.2 (6 + 3 * k + n) 0 (6 + 3 * i + n) = 0
      unfold upd
      by_cases e : i = k
      · subst e; rw [if_pos rfl]
      · rw [if_neg (by omega)]; exact z2 i (by omega)
    · show upd z.2 (6 + 3 * k + n) 0 x = f x
      unfold upd
      rw [if_neg (hx k hk)]; exact z3 x hx
  · obtain ⟨z1, z2, z3⟩ := hz
    simp only [fb_R_good_37, z1]
    rw [if_pos (show (3 : Int32) ≤ nI 3 from nI_le (a := 3) (Nat.le_refl 3) (by omega))]
    exact ⟨_, rfl, z2, z3⟩
theorem pz_g0 {α : Type} {n : Nat} {t : Option α} (hn : 0 < n) (h : n < 2 ^ 31) : gq_g (0 : Int32) n t = t := pz_g (k := 0) hn h
theorem pz_g1 {α : Type} {n : Nat} {t : Option α} (hn : 1 < n) (h : n < 2 ^ 31) : gq_g (1 : Int32) n t = t := pz_g (k := 1) hn h
theorem pz_g2 {α : Type} {n : Nat} {t : Option α} (hn : 2 < n) (h : n < 2 ^ 31) : gq_g (2 : Int32) n t = t := pz_g (k := 2) hn h
theorem pz_lgr {x : Int64} : lg_cmp x x = 0 := by unfold lg_cmp; rw [if_neg (Int64.lt_irrefl), if_pos rfl]
theorem pz_updn {f : Nat → Int32} {k x : Nat} {y : Int32} (h : x ≠ k) : upd f k y x = f x := if_neg h
theorem pz_upds {f : Nat → Int32} {k : Nat} {y : Int32} : upd f k y k = y := if_pos rfl
theorem pz_cpyI {f g : Nat → Int32} {n k : Nat} (h : k < n) : va_cpy f g 0 0 n k = f k := by
  unfold va_cpy; rw [if_pos ⟨by omega, by omega⟩]; congr 1; omega
theorem po_buyer {rth rps : Int32} {rln : Int64} {vno vpa : Nat → Int32} {vpr vsp : Nat → Int64} {vli vop : Nat → Int32} {vpu vre vpt : Nat → Int64} {vgr vab vbe : Nat → Int32} {krg : Nat → Option Nat} {kno kun : Int32} {mbu mgo : Nat → Int32} {mpu mwo : Nat → Nat → Int32} {mso : Nat → Int32} {mun : Nat → Int64} {pab pbe hsh : Nat → Nat → Int64} {tab tbe oar : Nat → Int64} {c : Nat} {a : Int32} (hI : pzI kno kun mbu mgo mpu mwo mso mun pab pbe hsh tab tbe rps rln vno vpa vpr vsp vli vab vbe) (hc : c < 9) (hk : kno = nI c) :
    ∃ r, fi_buyer krg kno kun rth rps rln vno vpa vpr vsp vli vop vpu vre vpt vgr vab vbe oar mbu mgo mpu mwo mso mun c ((c + 1) % 9) a = some r ∧ pzI r.1 r.2.1 (pu mbu ((c + 1) % 9) r.2.2.2.2.2.2.2.1) (pu mgo ((c + 1) % 9) r.2.2.2.2.2.2.2.2.1) (pu mpu ((c + 1) % 9) r.2.2.2.2.2.2.2.2.2.1) (pu mwo ((c + 1) % 9) r.2.2.2.2.2.2.2.2.2.2.1) (pu mso ((c + 1) % 9) r.2.2.2.2.2.2.2.2.2.2.2) mun pab pbe hsh tab tbe r.2.2.2.1 rln r.2.2.2.2.1 r.2.2.2.2.2.1 vpr vsp vli vab vbe := by
  subst hk
  have hI' := hI
  obtain ⟨c', u, hc', hu, hk', hku, hrp, ⟨nb, ng, m, v, hB, hSr⟩, hK, hT⟩ := hI
  have ec : c = c' := (nI_eq (by omega) (by omega)).mp hk'
  subst ec
  subst hku hrp
  have hB' := hB
  obtain ⟨hA, h1, h2, h3, h4, hr, h6⟩ := hB
  have hA' := hA
  have hr' := hr
  obtain ⟨r0, r1, r3, r6⟩ := hr
  obtain ⟨hb, hg, hm1, hm0, hv9, hv0⟩ := hA
  have h3n : (nI nb = 3) ↔ nb = 3 := nI_eq (b := 3) (by omega) (by omega)
  unfold fi_buyer f_L_buyer f_K_buyer f_R_buyer f_R_thrown
  rcases pk_within a (lo := 1) (hi := 20) (by omega) (by omega) with ⟨w1, w2⟩ | ⟨n, n1, n2, na, w1⟩
  · rw [show f_K_needWithin a 1 20 = _ from w1, pr_isMoney0 (by omega)]
    simp only [Option.bind_some, gq_e, if_true]
    rw [if_neg (show ¬ (1 : Int32) = 0 by decide)]
    refine ⟨_, rfl, ?_⟩
    simp only [pu_id]
    exact hI'
  · rw [show f_K_needWithin a 1 20 = _ from w1, na, pr_isMoney1 n1 n2]
    simp only [Option.bind_some, gq_e, if_neg (show ¬ (1 : Int32) = 0 by decide), pr_buyers r0, pz_g hc', h1, h2, h3n]
    by_cases hn3 : nb = 3
    · rw [if_neg (show ¬ nI nb < 3 by rw [hn3]; decide), if_pos hn3]
      simp only [Option.bind_some, if_true, if_neg (show ¬ (2 : Int32) = 0 by decide), if_neg (show ¬ "java/lang/UnsupportedOperationException" = "java/lang/IllegalArgumentException" by decide)]
      refine ⟨_, rfl, ?_⟩
      simp only [pu_id]
      exact hI'
    · rw [if_pos (show nI nb < 3 from nI_lt (b := 3) (by omega) (by omega)), if_neg hn3, pk_begun hc' hu]
      obtain ⟨vpa', k1, k2⟩ := @pr_keep 0 (nI u) rln vno vpa vpr vsp vli vop vpu vre vpt vgr vab vbe u hu rfl
      have eb : f_R_buyers 0 (nI (min (u + 1) 8)) rln (upd vno 2 0) vpa' vpr vsp vli vop vpu vre vpt vgr vab vbe = some (nI nb) := pr_buyers (by rw [pz_updn (by omega)]; exact r0)
      simp only [k1, Option.bind_some, pz_g (show nb < 3 by omega), pz_g0 (show 0 < 1 by omega) (by omega), pz_g0 (show 0 < 15 by omega) (by omega), eb, pz_row3, pz_g (show 3 + nb < 15 by omega), pr_zero3 (show nb < 3 by omega), pz_c (n := nb) (by omega), pz_c (n := 3 + nb) (by omega), pz_t0, if_true, pk_uLs, pz_lgr, nI_1]
      refine ⟨_, rfl, ?_⟩
      dsimp only
      refine pI_change hc' hu hB' hK hT k2 (nb' := nb + 1) (ng' := ng) (m' := fun i => if i = nb then n else m i) (v' := v) ⟨by omega, hg, fun i hi => ?_, fun i hi => ?_, hv9, fun i j h => hv0 i j (by omega)⟩ (fun i hi => ?_) (fun i j hi hj => ?_) ⟨?_, ?_, fun i hi => ?_, fun i j hi hj => ?_⟩ ?_
      · simp only; split
        · omega
        · exact hm1 i (by omega)
      · simp only; rw [if_neg (by omega)]; exact hm0 i (by omega)
      · by_cases e : i = nb
        · subst e; rw [pz_upds, if_pos rfl]
        · rw [pz_updn e, if_neg e, pz_cpyI (by omega)]; exact h3 i (by omega)
      · rw [pz_cpyI (by omega)]; exact h4 i j hi hj
      · rw [pz_upds, if_neg (by omega), pz_updn (by omega), pz_updn (by omega), r0, nI_1]
      · rw [pz_updn (by omega), if_neg (by omega), pz_updn (by omega), pz_updn (by omega)]; exact r1
      · rw [pz_updn (by omega), if_neg (by omega)]
        dsimp only
        by_cases e : i = nb
        · subst e; rw [pz_upds, if_pos rfl]
        · rw [pz_updn (by omega), pz_updn (by omega), if_neg e]; exact r3 i (by omega)
      · rw [pz_updn (by omega)]
        by_cases e : i = nb
        · subst e; rw [if_pos (by omega), hv0 i j (Or.inl (Nat.le_refl _))]; rfl
        · rw [if_neg (by omega), pz_updn (by omega), pz_updn (by omega)]; exact r6 i j (by omega) hj
      · rw [pz_updn (by omega), if_neg (by omega), pz_updn (by omega), pz_upds]
/-! Pure part 32: the rounds of good, money, value. -/
theorem po_good {rth rps : Int32} {rln : Int64} {vno vpa : Nat → Int32} {vpr vsp : Nat → Int64} {vli vop : Nat → Int32} {vpu vre vpt : Nat → Int64} {vgr vab vbe : Nat → Int32} {krg : Nat → Option Nat} {kno kun : Int32} {mbu mgo : Nat → Int32} {mpu mwo : Nat → Nat → Int32} {mso : Nat → Int32} {mun : Nat → Int64} {pab pbe hsh : Nat → Nat → Int64} {tab tbe oar : Nat → Int64} {c : Nat} (hI : pzI kno kun mbu mgo mpu mwo mso mun pab pbe hsh tab tbe rps rln vno vpa vpr vsp vli vab vbe) (hc : c < 9) (hk : kno = nI c) :
    ∃ r, fi_good krg kno kun rth rps rln vno vpa vpr vsp vli vop vpu vre vpt vgr vab vbe oar mbu mgo mpu mwo mso mun c ((c + 1) % 9) = some r ∧ pzI r.1 r.2.1 (pu mbu ((c + 1) % 9) r.2.2.2.2.2.2.2.1) (pu mgo ((c + 1) % 9) r.2.2.2.2.2.2.2.2.1) (pu mpu ((c + 1) % 9) r.2.2.2.2.2.2.2.2.2.1) (pu mwo ((c + 1) % 9) r.2.2.2.2.2.2.2.2.2.2.1) (pu mso ((c + 1) % 9) r.2.2.2.2.2.2.2.2.2.2.2) mun pab pbe hsh tab tbe r.2.2.2.1 rln r.2.2.2.2.1 r.2.2.2.2.2.1 vpr vsp vli vab vbe := by
  subst hk
  have hI' := hI
  obtain ⟨c', u, hc', hu, hk', hku, hrp, ⟨nb, ng, m, v, hB, hSr⟩, hK, hT⟩ := hI
  have ec : c = c' := (nI_eq (by omega) (by omega)).mp hk'
  subst ec
  subst hku hrp
  have hB' := hB
  obtain ⟨hA, h1, h2, h3, h4, hr, h6⟩ := hB
  have hA' := hA
  have hr' := hr
  obtain ⟨r0, r1, r3, r6⟩ := hr
  obtain ⟨hb, hg, hm1, hm0, hv9, hv0⟩ := hA
  have h3n : (nI ng = 3) ↔ ng = 3 := nI_eq (b := 3) (by omega) (by omega)
  unfold fi_good f_L_good f_K_good f_R_good f_R_thrown
  simp only [Option.bind_some, pr_goods r1, pz_g hc', h1, h2, h3n]
  by_cases hn3 : ng = 3
  · rw [if_neg (show ¬ nI ng < 3 by rw [hn3]; decide), if_pos hn3]
    simp only [Option.bind_some, gq_e, if_true, if_neg (show ¬ (1 : Int32) = 0 by decide)]
    refine ⟨_, rfl, ?_⟩
    simp only [pu_id]
    exact hI'
  · rw [if_pos (show nI ng < 3 from nI_lt (b := 3) (by omega) (by omega)), if_neg hn3, pk_begun hc' hu]
    obtain ⟨vpa', k1, k2⟩ := @pr_keep 0 (nI u) rln vno vpa vpr vsp vli vop vpu vre vpt vgr vab vbe u hu rfl
    have eb : f_R_goods 0 (nI (min (u + 1) 8)) rln (upd vno 2 0) vpa' vpr vsp vli vop vpu vre vpt vgr vab vbe = some (nI ng) := pr_goods (by rw [pz_updn (by omega)]; exact r1)
    obtain ⟨f, f1, f2, f3⟩ := @pr_zeroc ng (upd vno 2 0) (by omega)
    have f4 : ∀ x, x < 6 → f x = upd vno 2 0 x := fun x hx => f3 x (fun i hi => by omega)
    simp only [k1, Option.bind_some, gq_e, pz_g0 (show 0 < 1 by omega) (by omega), pz_g1 (show 1 < 15 by omega) (by omega), eb, f1, pz_t0, pz_t1, if_true, pk_uLs, pz_lgr, nI_1]
    refine ⟨_, rfl, ?_⟩
    try dsimp only
    refine pI_change hc' hu hB' hK hT k2 (nb' := nb) (ng' := ng + 1) (m' := m) (v' := v) ⟨hb, by omega, hm1, hm0, hv9, fun i j h => hv0 i j (by omega)⟩ (fun i hi => ?_) (fun i j hi hj => ?_) ⟨?_, ?_, fun i hi => ?_, fun i j hi hj => ?_⟩ ?_
    · rw [pz_cpyI (by omega)]; exact h3 i (by omega)
    · rw [pz_cpyI (by omega)]; exact h4 i j hi hj
    · rw [pz_updn (by omega), f4 0 (by omega), pz_updn (by omega)]; exact r0
    · rw [pz_upds, f4 1 (by omega), pz_updn (by omega), r1, nI_1]
    · rw [pz_updn (by omega), f4 _ (by omega), pz_updn (by omega)]; exact r3 i hi
    · rw [pz_updn (by omega)]
      by_cases e : j = ng
      · subst e; rw [f2 i (by omega), hv0 i j (Or.inr (Nat.le_refl _))]; rfl
      · rw [f3 _ (fun x hx => by omega), pz_updn (by omega)]; exact r6 i j hi (by omega)
    · rw [pz_updn (by omega), f4 2 (by omega), pz_upds]
theorem po_money {rth rps : Int32} {rln : Int64} {vno vpa : Nat → Int32} {vpr vsp : Nat → Int64} {vli vop : Nat → Int32} {vpu vre vpt : Nat → Int64} {vgr vab vbe : Nat → Int32} {krg : Nat → Option Nat} {kno kun : Int32} {mbu mgo : Nat → Int32} {mpu mwo : Nat → Nat → Int32} {mso : Nat → Int32} {mun : Nat → Int64} {pab pbe hsh : Nat → Nat → Int64} {tab tbe oar : Nat → Int64} {c : Nat} {a b : Int32} (hI : pzI kno kun mbu mgo mpu mwo mso mun pab pbe hsh tab tbe rps rln vno vpa vpr vsp vli vab vbe) (hc : c < 9) (hk : kno = nI c) :
    ∃ r, fi_money krg kno kun rth rps rln vno vpa vpr vsp vli vop vpu vre vpt vgr vab vbe mbu mgo mpu mwo mso mun c ((c + 1) % 9) a b = some r ∧ pzI r.1 r.2.1 (pu mbu ((c + 1) % 9) r.2.2.2.2.2.2.1) (pu mgo ((c + 1) % 9) r.2.2.2.2.2.2.2.1) (pu mpu ((c + 1) % 9) r.2.2.2.2.2.2.2.2.1) (pu mwo ((c + 1) % 9) r.2.2.2.2.2.2.2.2.2.1) (pu mso ((c + 1) % 9) r.2.2.2.2.2.2.2.2.2.2) mun pab pbe hsh tab tbe r.2.2.2.1 rln r.2.2.2.2.1 r.2.2.2.2.2.1 vpr vsp vli vab vbe := by
  subst hk
  have hI' := hI
  obtain ⟨c', u, hc', hu, hk', hku, hrp, ⟨nb, ng, m, v, hB, hSr⟩, hK, hT⟩ := hI
  have ec : c = c' := (nI_eq (by omega) (by omega)).mp hk'
  subst ec
  subst hku hrp
  have hB' := hB
  obtain ⟨hA, h1, h2, h3, h4, hr, h6⟩ := hB
  have hA' := hA
  have hr' := hr
  obtain ⟨r0, r1, r3, r6⟩ := hr
  obtain ⟨hb, hg, hm1, hm0, hv9, hv0⟩ := hA
  unfold fi_money f_L_money f_K_money f_R_money f_R_thrown
  simp only [Option.bind_some, h1, h2]
  rcases pk_idx a hb with q | ⟨i, hi, rfl⟩
  · rw [(pk_needBuyer hc' hb a).1 q, (pr_isBuyer hb r0 a).1 q]
    simp only [Option.bind_some, gq_e, if_true]
    refine ⟨_, rfl, ?_⟩
    simp only [pu_id]
    exact hI'
  · rw [(pk_needBuyer hc' hb (nI i)).2 i hi rfl, (pr_isBuyer hb r0 (nI i)).2 i hi rfl]
    simp only [Option.bind_some, gq_e, if_neg (show ¬ (1 : Int32) = 0 by decide)]
    rcases pk_within b (lo := 1) (hi := 20) (by omega) (by omega) with ⟨w1, w2⟩ | ⟨n, n1, n2, rfl, w1⟩
    · rw [show f_K_needWithin b 1 20 = _ from w1, pr_isMoney0 (by omega)]
      simp only [Option.bind_some, if_true, if_neg (show ¬ "java/lang/IllegalArgumentException" = "java/lang/IndexOutOfBoundsException" by decide)]
      refine ⟨_, rfl, ?_⟩
      simp only [pu_id]
      exact hI'
    · rw [show f_K_needWithin (nI n) 1 20 = _ from w1, pr_isMoney1 n1 n2]
      obtain ⟨vpa', k1, k2⟩ := @pr_keep 0 (nI u) rln vno vpa vpr vsp vli vop vpu vre vpt vgr vab vbe u hu rfl
      simp only [Option.bind_some, pk_begun hc' hu, k1, if_neg (show ¬ (1 : Int32) = 0 by decide), pz_g (show i < 3 by omega), pz_row3, pz_g (show 3 + i < 15 by omega), pz_c (n := i) (by omega), pz_c (n := 3 + i) (by omega), if_true]
      refine ⟨_, rfl, ?_⟩
      try dsimp only
      refine pI_change hc' hu hB' hK hT k2 (nb' := nb) (ng' := ng) (m' := fun x => if x = i then n else m x) (v' := v) ⟨hb, hg, fun x hx => ?_, fun x hx => ?_, hv9, hv0⟩ (fun x hx => ?_) (fun x y hx hy => ?_) ⟨?_, ?_, fun x hx => ?_, fun x y hx hy => ?_⟩ ?_
      · try dsimp only
        split
        · omega
        · exact hm1 x hx
      · try dsimp only
        rw [if_neg (by omega)]; exact hm0 x hx
      · try dsimp only
        by_cases e : x = i
        · subst e; rw [pz_upds, if_pos rfl]
        · rw [pz_updn e, if_neg e, pz_cpyI (by omega)]; exact h3 x hx
      · rw [pz_cpyI (by omega)]; exact h4 x y hx hy
      · rw [pz_updn (by omega), pz_updn (by omega)]; exact r0
      · rw [pz_updn (by omega), pz_updn (by omega)]; exact r1
      · try dsimp only
        by_cases e : x = i
        · subst e; rw [pz_upds, if_pos rfl]
        · rw [pz_updn (by omega), pz_updn (by omega), if_neg e]; exact r3 x hx
      · rw [pz_updn (by omega), pz_updn (by omega)]; exact r6 x y hx hy
      · rw [pz_updn (by omega), pz_upds]
theorem po_value {rth rps : Int32} {rln : Int64} {vno vpa : Nat → Int32} {vpr vsp : Nat → Int64} {vli vop : Nat → Int32} {vpu vre vpt : Nat → Int64} {vgr vab vbe : Nat → Int32} {krg : Nat → Option Nat} {kno kun : Int32} {mbu mgo : Nat → Int32} {mpu mwo : Nat → Nat → Int32} {mso : Nat → Int32} {mun : Nat → Int64} {pab pbe hsh : Nat → Nat → Int64} {tab tbe oar : Nat → Int64} {c : Nat} {a b d : Int32} (hI : pzI kno kun mbu mgo mpu mwo mso mun pab pbe hsh tab tbe rps rln vno vpa vpr vsp vli vab vbe) (hc : c < 9) (hk : kno = nI c) :
    ∃ r, fi_value krg kno kun rth rps rln vno vpa vpr vsp vli vop vpu vre vpt vgr vab vbe mbu mgo mpu mwo mso mun c ((c + 1) % 9) a b d = some r ∧ pzI r.1 r.2.1 (pu mbu ((c + 1) % 9) r.2.2.2.2.2.2.1) (pu mgo ((c + 1) % 9) r.2.2.2.2.2.2.2.1) (pu mpu ((c + 1) % 9) r.2.2.2.2.2.2.2.2.1) (pu mwo ((c + 1) % 9) r.2.2.2.2.2.2.2.2.2.1) (pu mso ((c + 1) % 9) r.2.2.2.2.2.2.2.2.2.2) mun pab pbe hsh tab tbe r.2.2.2.1 rln r.2.2.2.2.1 r.2.2.2.2.2.1 vpr vsp vli vab vbe := by
  subst hk
  have hI' := hI
  obtain ⟨c', u, hc', hu, hk', hku, hrp, ⟨nb, ng, m, v, hB, hSr⟩, hK, hT⟩ := hI
  have ec : c = c' := (nI_eq (by omega) (by omega)).mp hk'
  subst ec
  subst hku hrp
  have hB' := hB
  obtain ⟨hA, h1, h2, h3, h4, hr, h6⟩ := hB
  have hA' := hA
  have hr' := hr
  obtain ⟨r0, r1, r3, r6⟩ := hr
  obtain ⟨hb, hg, hm1, hm0, hv9, hv0⟩ := hA
  obtain ⟨t0, t1, t2, t3, t9, t20, t21, tk, tm⟩ := pk_t
  unfold fi_value f_L_value f_K_value f_R_value f_R_thrown
  simp only [Option.bind_some, h1, h2]
  rcases pk_idx a hb with q | ⟨i, hi, rfl⟩
  · rw [(pk_needBuyer hc' hb a).1 q, (pr_isBuyer hb r0 a).1 q]
    simp only [Option.bind_some, gq_e, if_true]
    refine ⟨_, rfl, ?_⟩
    simp only [pu_id]
    exact hI'
  · rw [(pk_needBuyer hc' hb (nI i)).2 i hi rfl, (pr_isBuyer hb r0 (nI i)).2 i hi rfl]
    simp only [Option.bind_some, gq_e, if_neg (show ¬ (1 : Int32) = 0 by decide)]
    rcases pk_idx b hg with q | ⟨j, hj, rfl⟩
    · rw [(pk_needGood hc' hg b).1 q, (pr_isGood hg r1 b).1 q]
      simp only [Option.bind_some, gq_e, if_true]
      refine ⟨_, rfl, ?_⟩
      simp only [pu_id]
      exact hI'
    · rw [(pk_needGood hc' hg (nI j)).2 j hj rfl, (pr_isGood hg r1 (nI j)).2 j hj rfl]
      simp only [Option.bind_some, gq_e, if_neg (show ¬ (1 : Int32) = 0 by decide)]
      rcases pk_within d (lo := 0) (hi := 9) (by omega) (by omega) with ⟨w1, w2⟩ | ⟨n, n1, n2, rfl, w1⟩
      · rw [show f_K_needWithin d 0 9 = _ from w1]
        have e2 : (if d < 0 then some ((2 : Int32), nI u, vno, vpa) else if d ≤ 9 then (f_R_keep 0 (nI u) rln vno vpa vpr vsp vli vop vpu vre vpt vgr vab vbe).bind fun x12 => gq_g (6 + 3 * nI i + nI j) 15 (some (0, x12.1, upd x12.2.1 (6 + 3 * nI i + nI j).toNatClampNeg d, x12.2.2)) else some (2, nI u, vno, vpa)) = some (2, nI u, vno, vpa) := by
          by_cases h0 : d < 0
          · rw [if_pos h0]
          · rw [if_neg h0, if_neg]
            rw [pj_lt, t0] at h0
            rw [pj_le, t9]; omega
        rw [e2]
        simp only [Option.bind_some, if_true, if_neg (show ¬ "java/lang/IllegalArgumentException" = "java/lang/IndexOutOfBoundsException" by decide)]
        refine ⟨_, rfl, ?_⟩
        simp only [pu_id]
        exact hI'
      · rw [show f_K_needWithin (nI n) 0 9 = _ from w1, if_neg (nI_pos (by omega)), if_pos (show nI n ≤ 9 from nI_le (b := 9) n2 (by omega))]
        obtain ⟨vpa', k1, k2⟩ := @pr_keep 0 (nI u) rln vno vpa vpr vsp vli vop vpu vre vpt vgr vab vbe u hu rfl
        simp only [Option.bind_some, pk_begun hc' hu, k1, pd_cell, pz_g (show 3 * i + j < 9 by omega), pz_row, pz_g (show 6 + 3 * i + j < 15 by omega), pz_c (n := 3 * i + j) (by omega), pz_c (n := 6 + 3 * i + j) (by omega), if_true]
        refine ⟨_, rfl, ?_⟩
        try dsimp only
        refine pI_change hc' hu hB' hK hT k2 (nb' := nb) (ng' := ng) (m' := m) (v' := fun x y => if x = i ∧ y = j then n else v x y) ⟨hb, hg, hm1, hm0, fun x y => ?_, fun x y h => ?_⟩ (fun x hx => ?_) (fun x y hx hy => ?_) ⟨?_, ?_, fun x hx => ?_, fun x y hx hy => ?_⟩ ?_
        · try dsimp only
          split
          · omega
          · exact hv9 x y
        · try dsimp only
          rw [if_neg (by omega)]; exact hv0 x y h
        · rw [pz_cpyI (by omega)]; exact h3 x hx
        · try dsimp only
          by_cases e : x = i ∧ y = j
          · rw [e.1, e.2, pz_upds, if_pos ⟨rfl, rfl⟩]
          · rw [pz_updn (by omega), if_neg e, pz_cpyI (by omega)]; exact h4 x y hx hy
        · rw [pz_updn (by omega), pz_updn (by omega)]; exact r0
        · rw [pz_updn (by omega), pz_updn (by omega)]; exact r1
        · rw [pz_updn (by omega), pz_updn (by omega)]; exact r3 x hx
        · try dsimp only
          by_cases e : x = i ∧ y = j
          · rw [e.1, e.2, pz_upds, if_pos ⟨rfl, rfl⟩]
          · rw [pz_updn (by omega), pz_updn (by omega), if_neg e]; exact r6 x y hx hy
        · rw [pz_updn (by omega), pz_upds]
