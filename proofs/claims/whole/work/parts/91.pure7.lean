/-! Pure part 33: join. -/
theorem pr_valueOf' {rth rps : Int32} {rln : Int64} {vno vpa : Nat → Int32} {vpr vsp : Nat → Int64} {vli vop : Nat → Int32} {vpu vre vpt : Nat → Int64} {vgr vab vbe : Nat → Int32} {i j : Nat} (hi : i < 3) (hj : j < 3) : f_R_valueOf rth rps rln vno vpa vpr vsp vli vop vpu vre vpt vgr vab vbe (nI i) (nI j) = some (vno (6 + 3 * i + j)) := by
  unfold f_R_valueOf
  rw [pz_row, pz_g (show 6 + 3 * i + j < 15 by omega), pz_c (n := 6 + 3 * i + j) (by omega)]
def jn_mx (v : Nat → Nat → Nat) (a b : Nat) : Nat → Nat
  | 0 => 0
  | k + 1 => max (jn_mx v a b k) (v k a + v k b)
theorem jn_mx_le {v : Nat → Nat → Nat} {a b B : Nat} : ∀ {k : Nat}, jn_mx v a b k ≤ B ↔ ∀ i, i < k → v i a + v i b ≤ B
  | 0 => by simp [jn_mx]
  | k + 1 => by
    have ih := @jn_mx_le v a b B k
    rw [jn_mx, Nat.max_le, ih]
    constructor
    · rintro ⟨h1, h2⟩ i hi
      by_cases e : i = k
      · rw [e]; exact h2
      · exact h1 i (by omega)
    · intro h; exact ⟨fun i hi => h i (by omega), h k (by omega)⟩
theorem pm_mostWorth {nb ng a b : Nat} {mgo mso : Int32} {mun : Int64} {mpu mwo : Nat → Int32} {m : Nat → Nat} {v : Nat → Nat → Nat} (hA : pm_A nb ng m v) (hw : ∀ i j, i < 3 → j < 3 → mwo (3 * i + j) = nI (v i j)) (ha : a < 3) (hb' : b < 3) :
    f_M_mostWorthTogether (nI nb) mgo mpu mwo mso mun (nI a) (nI b) = some (nI (jn_mx v a b nb)) := by
  obtain ⟨hb, hg, hm1, hm0, hv9, hv0⟩ := hA
  have e : gq_it 1000000 (fb_M_mostWorthTogether_5 (nI nb) mwo (nI a) (nI b)) (0, 0) = some (nI (jn_mx v a b nb)) := by
    refine pz_for (fun k => (nI k, nI (jn_mx v a b k))) 0 nb (by omega) (by omega) (fun k _ hk => ?_) ?_
    · have hle : jn_mx v a b k ≤ 18 := jn_mx_le.mpr (fun i _ => by have := hv9 i a; have := hv9 i b; omega)
      have h1 := hv9 k a
      have h2 := hv9 k b
      simp only [fb_M_mostWorthTogether_5, if_neg (pz_ge hk hb), pd_cell, Option.bind_some, pz_g (show 3 * k + a < 9 by omega), pz_g (show 3 * k + b < 9 by omega), pz_c (n := 3 * k + a) (by omega), pz_c (n := 3 * k + b) (by omega), hw k a (by omega) ha, hw k b (by omega) hb', nI_add, nI_1, f_J_max_III, jn_mx]
      by_cases h : jn_mx v a b k < v k a + v k b
      · rw [if_pos (nI_lt h (by omega)), Nat.max_eq_right (by omega)]; rfl
      · rw [if_neg (nI_nlt (by omega) (by omega)), Nat.max_eq_left (by omega)]; rfl
    · simp only [fb_M_mostWorthTogether_5, if_pos (pz_le' (Nat.le_refl nb) hb)]
  unfold f_M_mostWorthTogether
  rw [e]; rfl
def jn_eq (v : Nat → Nat → Nat) (a b i k : Nat) : Bool := decide (v i a * v k b = v i b * v k a)
theorem jn_81 {x y : Nat} (hx : x ≤ 9) (hy : y ≤ 9) : x * y < 2 ^ 31 := Nat.lt_of_le_of_lt (Nat.mul_le_mul hx hy) (by omega)
theorem pm_inProp {nb ng a b : Nat} {mgo mso : Int32} {mun : Int64} {mpu mwo : Nat → Int32} {m : Nat → Nat} {v : Nat → Nat → Nat} (hA : pm_A nb ng m v) (hw : ∀ i j, i < 3 → j < 3 → mwo (3 * i + j) = nI (v i j)) (ha : a < 3) (hb' : b < 3) :
    ∃ fl : Bool, f_M_inProportion (nI nb) mgo mpu mwo mso mun (nI a) (nI b) = some (pz_B fl) ∧ (fl = true ↔ ∀ i k, i < nb → k < i → jn_eq v a b i k = true) := by
  obtain ⟨hb, hg, hm1, hm0, hv9, hv0⟩ := hA
  have main : ∃ x, gq_it 1000000 (fb_M_inProportion_2 (nI nb) mwo (nI a) (nI b)) 0 = some x ∧ gq_e (fun _ => ∃ i k, i < nb ∧ k < i ∧ jn_eq v a b i k = false) (fun _ => ∀ i k, i < nb → k < i → jn_eq v a b i k = true) x := by
    refine pz_invF (fun i z => z = nI i ∧ ∀ x k, x < i → k < x → jn_eq v a b x k = true) 0 nb (by omega) (by omega) ⟨rfl, fun x k h => by omega⟩ (fun i z hi hz => ?_) (fun z hz => ?_)
    · obtain ⟨z1, z2⟩ := hz
      subst z1
      have inner : ∃ x, gq_it 1000000 (fb_M_inProportion_13 mwo (nI a) (nI b) (nI i)) 0 = some x ∧ gq_e (fun _ => ∃ k, k < i ∧ jn_eq v a b i k = false) (fun _ => ∀ k, k < i → jn_eq v a b i k = true) x := by
        refine pz_invF (fun k y => y = nI k ∧ ∀ x, x < k → jn_eq v a b i x = true) 0 i (by omega) (by omega) ⟨rfl, fun x h => by omega⟩ (fun k y hk hy => ?_) (fun y hy => ?_)
        · obtain ⟨y1, y2⟩ := hy
          subst y1
          simp only [fb_M_inProportion_13, if_neg (pz_ge hk (show i ≤ 3 by omega)), pd_cell, Option.bind_some, pz_g (show 3 * i + a < 9 by omega), pz_g (show 3 * k + b < 9 by omega), pz_g (show 3 * i + b < 9 by omega), pz_g (show 3 * k + a < 9 by omega), pz_c (n := 3 * i + a) (by omega), pz_c (n := 3 * k + b) (by omega), pz_c (n := 3 * i + b) (by omega), pz_c (n := 3 * k + a) (by omega), hw i a (by omega) ha, hw k b (by omega) hb', hw i b (by omega) hb', hw k a (by omega) ha, pk_mul, nI_eq (jn_81 (hv9 i a) (hv9 k b)) (jn_81 (hv9 i b) (hv9 k a)), nI_1]
          by_cases h : v i a * v k b = v i b * v k a
          · rw [if_pos h]
            refine Or.inl ⟨_, rfl, rfl, fun x hx => ?_⟩
            by_cases e : x = k
            · rw [e]; exact decide_eq_true h
            · exact y2 x (by omega)
          · rw [if_neg h]
            exact Or.inr ⟨_, rfl, k, hk, decide_eq_false h⟩
        · obtain ⟨y1, y2⟩ := hy
          subst y1
          simp only [fb_M_inProportion_13, if_pos (pz_le' (Nat.le_refl i) (by omega))]
          exact ⟨_, rfl, y2⟩
      obtain ⟨x, x1, x2⟩ := inner
      simp only [fb_M_inProportion_2, if_neg (pz_ge hi hb), x1, Option.bind_some, nI_1]
      cases x with
      | inl q =>
        obtain ⟨k, k1, k2⟩ := x2
        exact Or.inr ⟨_, rfl, i, k, hi, k1, k2⟩
      | inr q =>
        refine Or.inl ⟨_, rfl, rfl, fun x k hx hk => ?_⟩
        by_cases e : x = i
        · rw [e] at hk ⊢; exact x2 k hk
        · exact z2 x k (by omega) hk
    · obtain ⟨z1, z2⟩ := hz
      subst z1
      simp only [fb_M_inProportion_2, if_pos (pz_le' (Nat.le_refl nb) hb)]
      exact ⟨_, rfl, z2⟩
  obtain ⟨x, x1, x2⟩ := main
  unfold f_M_inProportion
  rw [x1, Option.bind_some]
  cases x with
  | inl q =>
    obtain ⟨i, k, h1, h2, h3⟩ := x2
    exact ⟨false, rfl, fun h => (by cases h), fun h => by rw [h i k h1 h2] at h3; cases h3⟩
  | inr q => exact ⟨true, rfl, fun _ => x2, fun _ => rfl⟩
theorem pr_canJoin {rth rps : Int32} {rln : Int64} {vno vpa : Nat → Int32} {vpr vsp : Nat → Int64} {vli vop : Nat → Int32} {vpu vre vpt : Nat → Int64} {vgr vab vbe : Nat → Int32} {nb ng a b : Nat} {m : Nat → Nat} {v : Nat → Nat → Nat} (hA : pm_A nb ng m v) (hr : pm_R nb ng m v vno) (ha : a < ng) (hb' : b < ng) :
    ∃ fl : Bool, f_R_canJoin rth rps rln vno vpa vpr vsp vli vop vpu vre vpt vgr vab vbe (nI a) (nI b) = some (pz_B fl) ∧ (fl = true ↔ (∀ i, i < nb → v i a + v i b ≤ 9) ∧ ∀ i k, i < nb → k < i → jn_eq v a b i k = true) := by
  obtain ⟨hb, hg, hm1, hm0, hv9, hv0⟩ := hA
  obtain ⟨r0, r1, r3, r6⟩ := hr
  have inner : ∀ (i : Nat) (z5 : Int32 × Int32) (b0 : Bool), i < nb → z5.1 = nI i → gq_it 1000000 (fb_R_canJoin_47 rth rps rln vno vpa vpr vsp vli vop vpu vre vpt vgr vab vbe (nI a) (nI b) z5) (0, pz_B b0) = some (pz_B (b0 && pz_all (fun k => jn_eq v a b i k) i)) := fun i z5 b0 hi hz => by
    have e0 : pz_B b0 = pz_B (b0 && pz_all (fun k => jn_eq v a b i k) 0) := by rw [pz_all, Bool.and_true]
    rw [e0]
    refine pz_for (fun k => (nI k, pz_B (b0 && pz_all (fun k => jn_eq v a b i k) k))) 0 i (by omega) (by omega) (fun k _ hk => ?_) ?_
    · simp only [fb_R_canJoin_47, hz, if_neg (pz_ge hk (show i ≤ 3 by omega)), pz_B0, pr_valueOf (show i < 3 by omega) (show a < 3 by omega) (r6 i a hi ha), pr_valueOf (show k < 3 by omega) (show b < 3 by omega) (r6 k b (by omega) hb'), pr_valueOf (show i < 3 by omega) (show b < 3 by omega) (r6 i b hi hb'), pr_valueOf (show k < 3 by omega) (show a < 3 by omega) (r6 k a (by omega) ha), Option.bind_some, pk_mul, nI_eq (jn_81 (hv9 i a) (hv9 k b)) (jn_81 (hv9 i b) (hv9 k a)), nI_1, pz_all]
      cases b0
      · simp; rfl
      · cases pz_all (fun k => jn_eq v a b i k) k
        · simp; rfl
        · unfold jn_eq
          by_cases h : v i a * v k b = v i b * v k a
          · simp [h]; rfl
          · simp [h]; rfl
    · simp only [fb_R_canJoin_47, hz, if_pos (pz_le' (Nat.le_refl i) (show i ≤ 3 by omega))]
  have main : ∃ x, gq_it 1000000 (fb_R_canJoin_5 rth rps rln vno vpa vpr vsp vli vop vpu vre vpt vgr vab vbe (nI a) (nI b)) (0, 1) = some x ∧ ∃ fl : Bool, x = pz_B fl ∧ (fl = true ↔ (∀ i, i < nb → v i a + v i b ≤ 9) ∧ ∀ i k, i < nb → k < i → jn_eq v a b i k = true) := by
    refine pz_invM (fun i z => z.1 = nI i ∧ ∃ fl : Bool, z.2 = pz_B fl ∧ (fl = true ↔ (∀ x, x < i → v x a + v x b ≤ 9) ∧ ∀ x k, x < i → k < x → jn_eq v a b x k = true)) 0 nb (by omega) (by omega) ⟨rfl, true, rfl, fun _ => ⟨fun x h => by omega, fun x k h => by omega⟩, fun _ => rfl⟩ (fun i z hi hz => ?_) (fun z hz => ?_)
    · obtain ⟨z1, fl, z2, z3⟩ := hz
      have h1 := hv9 i a
      have h2 := hv9 i b
      have q0 := inner i z false hi z1
      have q1 := inner i z true hi z1
      rw [show pz_B false = 0 from rfl] at q0
      rw [show pz_B true = 1 from rfl] at q1
      have E2 : ∀ w, fb_R_canJoin_47_2 rth rps rln vno vpa vpr vsp vli vop vpu vre vpt vgr vab vbe (nI a) (nI b) z w = fb_R_canJoin_47 rth rps rln vno vpa vpr vsp vli vop vpu vre vpt vgr vab vbe (nI a) (nI b) z w := fun w => rfl
      have E3 : ∀ w, fb_R_canJoin_47_3 rth rps rln vno vpa vpr vsp vli vop vpu vre vpt vgr vab vbe (nI a) (nI b) z w = fb_R_canJoin_47 rth rps rln vno vpa vpr vsp vli vop vpu vre vpt vgr vab vbe (nI a) (nI b) z w := fun w => rfl
      simp only [fb_R_canJoin_5, pr_buyers r0, Option.bind_some, z1, if_neg (pz_ge hi hb), z2, pz_B0, pr_valueOf (show i < 3 by omega) (show a < 3 by omega) (r6 i a hi ha), pr_valueOf (show i < 3 by omega) (show b < 3 by omega) (r6 i b hi hb'), nI_add, nI_1, funext E2, funext E3, q0, q1, Bool.false_and, Bool.true_and]
      have fin : ∀ fl' : Bool, (fl' = true ↔ fl = true ∧ v i a + v i b ≤ 9 ∧ pz_all (fun k => jn_eq v a b i k) i = true) → (fl' = true ↔ (∀ x, x < i + 1 → v x a + v x b ≤ 9) ∧ ∀ x k, x < i + 1 → k < x → jn_eq v a b x k = true) := fun fl' h => by
        rw [h, z3, pz_all_iff]
        constructor
        · rintro ⟨⟨p1, p2⟩, p3, p4⟩
          refine ⟨fun x hx => ?_, fun x k hx hk => ?_⟩
          · by_cases e : x = i
            · rw [e]; exact p3
            · exact p1 x (by omega)
          · by_cases e : x = i
            · rw [e] at hk ⊢; exact p4 k hk
            · exact p2 x k (by omega) hk
        · rintro ⟨p1, p2⟩
          exact ⟨⟨fun x hx => p1 x (by omega), fun x k hx hk => p2 x k (by omega) hk⟩, p1 i (by omega), fun k hk => p2 i k (by omega) hk⟩
      cases fl
      · rw [if_pos rfl]
        exact ⟨_, rfl, rfl, false, rfl, fin false (by simp)⟩
      · rw [if_neg (by decide)]
        by_cases h10 : 10 ≤ v i a + v i b
        · rw [if_pos (show (10 : Int32) ≤ nI (v i a + v i b) from nI_le (a := 10) h10 (by omega))]
          refine ⟨_, rfl, rfl, false, rfl, fin false ⟨fun h => (by cases h), fun h => ?_⟩⟩
          omega
        · rw [if_neg (show ¬ (10 : Int32) ≤ nI (v i a + v i b) from nI_ge (b := 10) (by omega) (by omega))]
          exact ⟨_, rfl, rfl, _, rfl, fin _ ⟨fun h => ⟨rfl, by omega, h⟩, fun h => h.2.2⟩⟩
    · obtain ⟨z1, fl, z2, z3⟩ := hz
      simp only [fb_R_canJoin_5, pr_buyers r0, Option.bind_some, z1, if_pos (pz_le' (Nat.le_refl nb) hb)]
      exact ⟨_, rfl, fl, z2, z3⟩
  obtain ⟨x, x1, fl, x2, x3⟩ := main
  unfold f_R_canJoin
  rw [x1, Option.bind_some, x2, pz_Bzo]
  exact ⟨fl, rfl, x3⟩
/-- the values after a join of a and b -/
def jn_v (ng : Nat) (v : Nat → Nat → Nat) (a b : Nat) : Nat → Nat → Nat := fun i x => if x < b then (if x = a then v i a + v i b else v i x) else if x + 1 < ng then v i (x + 1) else 0
theorem pm_merge {nb ng a b : Nat} {mso : Int32} {mun : Int64} {mpu mwo : Nat → Int32} {m : Nat → Nat} {v : Nat → Nat → Nat} (hA : pm_A nb ng m v) (hw : ∀ i j, i < 3 → j < 3 → mwo (3 * i + j) = nI (v i j)) (ha : a < b) (hbg : b < ng) :
    ∃ r, f_M_merge (nI nb) (nI ng) mpu mwo mso mun (nI a) (nI b) = some (nI (ng - 1), r) ∧ ∀ i j, i < 3 → j < 3 → r (3 * i + j) = nI (jn_v ng v a b i j) := by
  obtain ⟨hb, hg, hm1, hm0, hv9, hv0⟩ := hA
  have eg : nI ng - 1 = nI (ng - 1) := by
    have := nI_pred (ng - 1); rw [show ng - 1 + 1 = ng by omega] at this; exact this
  have main : ∃ x, gq_it 1000000 (fb_M_merge_2 (nI nb) (nI ng) (nI a) (nI b)) (0, mwo) = some x ∧ ∀ i j, i < 3 → j < 3 → x (3 * i + j) = nI (if i < nb then jn_v ng v a b i j else v i j) := by
    refine pz_invM (fun i z => z.1 = nI i ∧ ∀ x y, x < 3 → y < 3 → z.2 (3 * x + y) = nI (if x < i then jn_v ng v a b x y else v x y)) 0 nb (by omega) (by omega) ⟨rfl, fun x y hx hy => by rw [if_neg (by omega)]; exact hw x y hx hy⟩ (fun i z hi hz => ?_) (fun z hz => ?_)
    · obtain ⟨z1, z2⟩ := hz
      have za := z2 i a (by omega) (by omega)
      have zb := z2 i b (by omega) (by omega)
      rw [if_neg (by omega)] at za zb
      generalize hW : upd z.2 (3 * i + a) (nI (v i a + v i b)) = W
      have inner : gq_it 1000000 (fb_M_merge_36 (nI ng) z) (nI b, W) = some (fun x => if 3 * i + b ≤ x ∧ x < 3 * i + (ng - 1) then W (x + 1) else W x) := by
        have e0 : (nI b, W) = (nI b, fun x => if 3 * i + b ≤ x ∧ x < 3 * i + b then W (x + 1) else W x) := by
          refine Prod.ext rfl ?_
          funext x
          dsimp only
          rw [if_neg (by omega)]
        rw [e0]
        refine pz_for (fun k => (nI k, fun x => if 3 * i + b ≤ x ∧ x < 3 * i + k then W (x + 1) else W x)) b (ng - 1) (by omega) (by omega) (fun k h1 hk => ?_) ?_
        · simp only [fb_M_merge_36, eg, if_neg (pz_ge hk (show ng - 1 ≤ 3 by omega)), z1, pd_cell, Option.bind_some, nI_1, pz_g (show 3 * i + (k + 1) < 9 by omega), pz_g (show 3 * i + k < 9 by omega), pz_c (n := 3 * i + (k + 1)) (by omega), pz_c (n := 3 * i + k) (by omega)]
          congr 3
          funext x
          unfold upd
          by_cases e : x = 3 * i + k
          · subst e
            rw [if_pos rfl, if_neg (by omega), if_pos (by omega)]; rfl
          · rw [if_neg e]
            dsimp only
            by_cases h : 3 * i + b ≤ x ∧ x < 3 * i + k
            · rw [if_pos h, if_pos (by omega)]
            · rw [if_neg h, if_neg (by omega)]
        · simp only [fb_M_merge_36, eg, if_pos (pz_le' (Nat.le_refl (ng - 1)) (by omega))]
      simp only [fb_M_merge_2, z1, if_neg (pz_ge hi hb), pd_cell, Option.bind_some, pz_g (show 3 * i + a < 9 by omega), pz_g (show 3 * i + b < 9 by omega), pz_c (n := 3 * i + a) (by omega), pz_c (n := 3 * i + b) (by omega), za, zb, nI_add, hW, inner, eg, pz_g (show 3 * i + (ng - 1) < 9 by omega), pz_c (n := 3 * i + (ng - 1)) (by omega), nI_1]
      refine ⟨_, rfl, rfl, fun x y hx hy => ?_⟩
      dsimp only
      by_cases hxi : x = i
      · subst hxi
        rw [if_pos (by omega)]
        unfold jn_v
        by_cases e1 : y = ng - 1
        · rw [e1, pz_upds, if_neg (by omega), if_neg (by omega)]; rfl
        · rw [pz_updn (by omega)]
          by_cases e2 : y < b
          · rw [if_neg (by omega), if_pos e2, ← hW]
            by_cases e3 : y = a
            · rw [e3, pz_upds, if_pos rfl]
            · rw [pz_updn (by omega), if_neg e3, z2 x y hx hy, if_neg (by omega)]
          · rw [if_neg e2]
            by_cases e4 : y + 1 < ng
            · rw [if_pos (by omega), if_pos e4, ← hW, pz_updn (by omega)]
              have := z2 x (y + 1) hx (by omega)
              rw [if_neg (by omega)] at this
              exact this
            · rw [if_neg (by omega), if_neg e4, ← hW, pz_updn (by omega), z2 x y hx hy, if_neg (by omega), hv0 x y (Or.inr (by omega))]
      · rw [pz_updn (by omega), if_neg (by omega), ← hW, pz_updn (by omega), z2 x y hx hy]
        by_cases e : x < i
        · rw [if_pos e, if_pos (by omega)]
        · rw [if_neg e, if_neg (by omega)]
    · obtain ⟨z1, z2⟩ := hz
      simp only [fb_M_merge_2, z1, if_pos (pz_le' (Nat.le_refl nb) hb)]
      exact ⟨_, rfl, z2⟩
  obtain ⟨x, x1, x2⟩ := main
  unfold f_M_merge
  rw [x1, Option.bind_some, eg]
  refine ⟨_, rfl, fun i j hi hj => ?_⟩
  rw [x2 i j hi hj]
  by_cases h : i < nb
  · rw [if_pos h]
  · rw [if_neg h]
    have z := fun y => hv0 i y (Or.inl (by omega))
    unfold jn_v
    simp only [z]
    split
    · split <;> rfl
    · split <;> rfl
/-! Pure part 34: the round of join. -/
theorem pr_joinLoop {rth rps : Int32} {rln : Int64} {vno vpa : Nat → Int32} {vpr vsp : Nat → Int64} {vli vop : Nat → Int32} {vpu vre vpt : Nat → Int64} {vgr vab vbe : Nat → Int32} {nb ng a b : Nat} {m : Nat → Nat} {v : Nat → Nat → Nat} {x14 : Int32 × (Nat → Int32) × (Nat → Int32)} {W0 : Nat → Int32} (hA : pm_A nb ng m v) (hr : pm_R nb ng m v W0) (ha : a < b) (hbg : b < ng) :
    ∃ r, gq_it 1000000 (fb_R_join_57 rln vpr vsp vli vop vpu vre vpt vgr vab vbe (nI a) (nI b) x14) (0, W0) = some r ∧ (∀ x, x < 6 → r x = W0 x) ∧ ∀ i j, i < nb → j < ng - 1 → r (6 + 3 * i + j) = nI (jn_v ng v a b i j) := by
  obtain ⟨hb, hg, hm1, hm0, hv9, hv0⟩ := hA
  obtain ⟨r0, r1, r3, r6⟩ := hr
  refine pz_invM (fun i z => z.1 = nI i ∧ (∀ x, x < 6 → z.2 x = W0 x) ∧ (∀ x y, x < i → y < ng - 1 → z.2 (6 + 3 * x + y) = nI (jn_v ng v a b x y)) ∧ (∀ x y, i ≤ x → x < nb → y < ng → z.2 (6 + 3 * x + y) = nI (v x y))) 0 nb (by omega) (by omega) ⟨rfl, fun x _ => rfl, fun x y h => by omega, fun x y _ hx hy => r6 x y hx hy⟩ (fun i z hi hz => ?_) (fun z hz => ?_)
  · obtain ⟨z1, z2, z3, z4⟩ := hz
    have za := z4 i a (Nat.le_refl _) hi (by omega)
    have zb := z4 i b (Nat.le_refl _) hi hbg
    generalize hW : upd z.2 (6 + 3 * i + a) (nI (v i a + v i b)) = W
    have inner : gq_it 1000000 (fb_R_join_94 rln vpr vsp vli vop vpu vre vpt vgr vab vbe x14 z) (nI b, W) = some (fun x => if 6 + 3 * i + b ≤ x ∧ x < 6 + 3 * i + 2 then W (x + 1) else W x) := by
      have e0 : (nI b, W) = (nI b, fun x => if 6 + 3 * i + b ≤ x ∧ x < 6 + 3 * i + b then W (x + 1) else W x) := by
        refine Prod.ext rfl ?_
        funext x
        dsimp only
        rw [if_neg (by omega)]
      rw [e0]
      refine pz_for (fun k => (nI k, fun x => if 6 + 3 * i + b ≤ x ∧ x < 6 + 3 * i + k then W (x + 1) else W x)) b 2 (by omega) (by omega) (fun k h1 hk => ?_) ?_
      · simp only [fb_R_join_94, if_neg (show ¬ (2 : Int32) ≤ nI k from nI_ge (b := 2) hk (by omega)), z1, nI_1, pr_valueOf' (show i < 3 by omega) (show k + 1 < 3 by omega), Option.bind_some, pz_row, pz_g (show 6 + 3 * i + k < 15 by omega), pz_c (n := 6 + 3 * i + k) (by omega)]
        congr 3
        funext x
        unfold upd
        by_cases e : x = 6 + 3 * i + k
        · subst e
          rw [if_pos rfl, if_neg (by omega), if_pos (by omega)]; rfl
        · rw [if_neg e]
          dsimp only
          by_cases h : 6 + 3 * i + b ≤ x ∧ x < 6 + 3 * i + k
          · rw [if_pos h, if_pos (by omega)]
          · rw [if_neg h, if_neg (by omega)]
      · simp only [fb_R_join_94]
        rw [if_pos (show (2 : Int32) ≤ nI 2 from nI_le (a := 2) (Nat.le_refl 2) (by omega))]
    have ebuy : f_R_buyers 0 x14.1 rln z.2 x14.2.2 vpr vsp vli vop vpu vre vpt vgr vab vbe = some (nI nb) := pr_buyers (by rw [z2 0 (by omega)]; exact r0)
    simp only [fb_R_join_57, ebuy, Option.bind_some, z1, if_neg (pz_ge hi hb), pr_valueOf' (show i < 3 by omega) (show a < 3 by omega), pr_valueOf' (show i < 3 by omega) (show b < 3 by omega), za, zb, nI_add, pz_row, pz_g (show 6 + 3 * i + a < 15 by omega), pz_c (n := 6 + 3 * i + a) (by omega), hW, inner, nI_1]
    refine ⟨_, rfl, rfl, fun x hx => ?_, fun x y hx hy => ?_, fun x y h1 hx hy => ?_⟩
    · dsimp only
      rw [if_neg (by omega), ← hW, pz_updn (by omega)]; exact z2 x hx
    · dsimp only
      by_cases e : x = i
      · subst e
        unfold jn_v
        by_cases e2 : y < b
        · rw [if_neg (by omega), if_pos e2, ← hW]
          by_cases e3 : y = a
          · rw [e3, pz_upds, if_pos rfl]
          · rw [pz_updn (by omega), if_neg e3]; exact z4 x y (Nat.le_refl _) hi (by omega)
        · rw [if_neg e2, if_pos (by omega), if_pos (by omega), ← hW, pz_updn (by omega)]
          have := z4 x (y + 1) (Nat.le_refl _) hi (by omega)
          exact this
      · rw [if_neg (by omega), ← hW, pz_updn (by omega)]; exact z3 x y (by omega) hy
    · dsimp only
      rw [if_neg (by omega), ← hW, pz_updn (by omega)]; exact z4 x y (by omega) hx hy
  · obtain ⟨z1, z2, z3, z4⟩ := hz
    have ebuy : f_R_buyers 0 x14.1 rln z.2 x14.2.2 vpr vsp vli vop vpu vre vpt vgr vab vbe = some (nI nb) := pr_buyers (by rw [z2 0 (by omega)]; exact r0)
    simp only [fb_R_join_57, ebuy, Option.bind_some, z1, if_pos (pz_le' (Nat.le_refl nb) hb)]
    exact ⟨_, rfl, z2, z3⟩
theorem po_join {rth rps : Int32} {rln : Int64} {vno vpa : Nat → Int32} {vpr vsp : Nat → Int64} {vli vop : Nat → Int32} {vpu vre vpt : Nat → Int64} {vgr vab vbe : Nat → Int32} {krg : Nat → Option Nat} {kno kun : Int32} {mbu mgo : Nat → Int32} {mpu mwo : Nat → Nat → Int32} {mso : Nat → Int32} {mun : Nat → Int64} {pab pbe hsh : Nat → Nat → Int64} {tab tbe oar : Nat → Int64} {c : Nat} {a b : Int32} (hI : pzI kno kun mbu mgo mpu mwo mso mun pab pbe hsh tab tbe rps rln vno vpa vpr vsp vli vab vbe) (hc : c < 9) (hk : kno = nI c) :
    ∃ r, fi_join krg kno kun rth rps rln vno vpa vpr vsp vli vop vpu vre vpt vgr vab vbe mbu mgo mpu mwo mso mun c ((c + 1) % 9) a b = some r ∧ pzI r.1 r.2.1 (pu mbu ((c + 1) % 9) r.2.2.2.2.2.2.1) (pu mgo ((c + 1) % 9) r.2.2.2.2.2.2.2.1) (pu mpu ((c + 1) % 9) r.2.2.2.2.2.2.2.2.1) (pu mwo ((c + 1) % 9) r.2.2.2.2.2.2.2.2.2.1) (pu mso ((c + 1) % 9) r.2.2.2.2.2.2.2.2.2.2) mun pab pbe hsh tab tbe r.2.2.2.1 rln r.2.2.2.2.1 r.2.2.2.2.2.1 vpr vsp vli vab vbe := by
  subst hk
  have hI' := hI
  obtain ⟨c', u, hc', hu, hk', hku, hrp, ⟨nb, ng, m, v, hB, hSr⟩, hK, hT⟩ := hI
  have ec : c = c' := (nI_eq (by omega) (by omega)).mp hk'
  subst ec
  subst hku hrp
  have hB' := hB
  obtain ⟨hA, h1, h2, h3, h4, hr, h6⟩ := hB
  have hA' := hA
  have hr' := hr
  obtain ⟨r0, r1, r3, r6⟩ := hr
  obtain ⟨hb, hg, hm1, hm0, hv9, hv0⟩ := hA
  unfold fi_join f_L_join f_K_join f_R_join f_R_thrown
  simp only [Option.bind_some, h1, h2]
  have nIO : ¬ "java/lang/IllegalArgumentException" = "java/lang/IndexOutOfBoundsException" := by decide
  rcases pk_idx a hg with q | ⟨i, hi, rfl⟩
  · rw [(pk_needGood hc' hg a).1 q, (pr_isGood hg r1 a).1 q]
    simp only [Option.bind_some, gq_e, if_true]
    refine ⟨_, rfl, ?_⟩
    simp only [pu_id]
    exact hI'
  · rw [(pk_needGood hc' hg (nI i)).2 i hi rfl, (pr_isGood hg r1 (nI i)).2 i hi rfl]
    simp only [Option.bind_some, gq_e, if_neg (show ¬ (1 : Int32) = 0 by decide)]
    rcases pk_idx b hg with q | ⟨j, hj, rfl⟩
    · rw [(pk_needGood hc' hg b).1 q, (pr_isGood hg r1 b).1 q]
      simp only [Option.bind_some, gq_e, if_true]
      refine ⟨_, rfl, ?_⟩
      simp only [pu_id]
      exact hI'
    · rw [(pk_needGood hc' hg (nI j)).2 j hj rfl, (pr_isGood hg r1 (nI j)).2 j hj rfl]
      simp only [Option.bind_some, gq_e, if_neg (show ¬ (1 : Int32) = 0 by decide)]
      by_cases hij : i < j
      · rw [if_pos (nI_lt hij (by omega)), if_pos (nI_lt hij (by omega))]
        obtain ⟨fl, p1, p2⟩ := @pm_inProp nb ng i j (nI ng) (mso c) (mun c) (mpu c) (mwo c) m v hA' h4 (by omega) (by omega)
        obtain ⟨fl2, c1, c2⟩ := @pr_canJoin rth (nI u) rln vno vpa vpr vsp vli vop vpu vre vpt vgr vab vbe nb ng i j m v hA' hr' hi hj
        have hmx : jn_mx v i j nb ≤ 18 := jn_mx_le.mpr (fun x _ => by have := hv9 x i; have := hv9 x j; omega)
        rw [pm_mostWorth hA' h4 (by omega) (by omega), p1, c1]
        simp only [pz_g hc', Option.bind_some]
        by_cases h9 : jn_mx v i j nb ≤ 9
        · rw [if_pos (show nI (jn_mx v i j nb) ≤ 9 from nI_le (b := 9) h9 (by omega))]
          have efl : fl2 = fl := by
            rw [Bool.eq_iff_iff, c2, p2]
            exact ⟨fun h => h.2, fun h => ⟨jn_mx_le.mp h9, h⟩⟩
          subst efl
          cases fl2
          · simp only [if_pos (show pz_B false = 0 from rfl), Option.bind_some, if_neg nIO, if_true]
            refine ⟨_, rfl, ?_⟩
            simp only [pu_id]
            exact hI'
          · have hcan := c2.mp rfl
            obtain ⟨vpa', k1, k2⟩ := @pr_keep 0 (nI u) rln vno vpa vpr vsp vli vop vpu vre vpt vgr vab vbe u hu rfl
            obtain ⟨wo', g1, g2⟩ := @pm_merge nb ng i j 0 (mun ((c + 1) % 9)) (va_cpy (mpu c) (mpu ((c + 1) % 9)) 0 0 3) (va_cpy (mwo c) (mwo ((c + 1) % 9)) 0 0 9) m v hA' (fun x y hx hy => by rw [pz_cpyI (by omega)]; exact h4 x y hx hy) hij hj
            obtain ⟨f, f1, f2, f3⟩ := @pr_joinLoop rth (nI u) rln vno vpa vpr vsp vli vop vpu vre vpt vgr vab vbe nb ng i j m v (nI (min (u + 1) 8), upd vno 2 0, vpa') (upd vno 2 0) hA' ⟨by rw [pz_updn (by omega)]; exact r0, by rw [pz_updn (by omega)]; exact r1, fun x hx => by rw [pz_updn (by omega)]; exact r3 x hx, fun x y hx hy => by rw [pz_updn (by omega)]; exact r6 x y hx hy⟩ hij hj
            have eg : nI ng - 1 = nI (ng - 1) := by
              have := nI_pred (ng - 1); rw [show ng - 1 + 1 = ng by omega] at this; exact this
            simp only [if_neg (show ¬ pz_B true = 0 by decide), pk_begun hc' hu, k1, Option.bind_some, g1, f1, pz_g1 (show 1 < 15 by omega) (by omega), pz_t1, if_true]
            refine ⟨_, rfl, ?_⟩
            dsimp only
            refine pI_change hc' hu hB' hK hT k2 (nb' := nb) (ng' := ng - 1) (m' := m) (v' := jn_v ng v i j) ⟨hb, by omega, hm1, hm0, fun x y => ?_, fun x y h => ?_⟩ (fun x hx => ?_) g2 ⟨?_, ?_, fun x hx => ?_, fun x y hx hy => ?_⟩ ?_
            · unfold jn_v
              split
              · split
                · by_cases hx : x < nb
                  · exact hcan.1 x hx
                  · rw [hv0 x i (Or.inl (by omega)), hv0 x j (Or.inl (by omega))]; omega
                · exact hv9 x y
              · split
                · exact hv9 x (y + 1)
                · omega
            · unfold jn_v
              rcases h with h | h
              · simp only [hv0 x _ (Or.inl h)]
                split
                · split <;> rfl
                · split <;> rfl
              · rw [if_neg (by omega), if_neg (by omega)]
            · rw [pz_cpyI (by omega)]; exact h3 x hx
            · rw [pz_updn (by omega), f2 0 (by omega), pz_updn (by omega)]; exact r0
            · rw [pz_upds, f2 1 (by omega), pz_updn (by omega), r1, eg]
            · rw [pz_updn (by omega), f2 _ (by omega), pz_updn (by omega)]; exact r3 x hx
            · rw [pz_updn (by omega)]; exact f3 x y hx hy
            · rw [pz_updn (by omega), f2 2 (by omega), pz_upds]
        · rw [if_neg (show ¬ nI (jn_mx v i j nb) ≤ 9 from nI_ge (a := 9) (by omega) (by omega))]
          have efl : fl2 = false := by
            cases fl2
            · rfl
            · exact absurd (jn_mx_le.mpr (c2.mp rfl).1) h9
          subst efl
          simp only [if_pos (show pz_B false = 0 from rfl), Option.bind_some, if_neg nIO, if_true]
          refine ⟨_, rfl, ?_⟩
          simp only [pu_id]
          exact hI'
      · rw [if_neg (nI_nlt (by omega) (by omega)), if_neg (nI_nlt (by omega) (by omega))]
        simp only [Option.bind_some, if_true]
        refine ⟨_, rfl, ?_⟩
        simp only [pu_id]
        exact hI'
/-! Pure part 35: the rounds of undo, count, told, ready, tryPrice. -/
theorem pr_isSolved {rth rps : Int32} {rln : Int64} {vno vpa : Nat → Int32} {vpr vsp : Nat → Int64} {vli vop : Nat → Int32} {vpu vre vpt : Nat → Int64} {vgr vab vbe : Nat → Int32} {b : Bool} (h : vno 2 = pz_B b) : f_R_isSolved rth rps rln vno vpa vpr vsp vli vop vpu vre vpt vgr vab vbe = some (pz_B b) := by
  unfold f_R_isSolved
  rw [pz_g2 (show 2 < 15 by omega) (by omega), pz_t2, h]
  cases b <;> rfl
theorem pI_rth {kno kun : Int32} {mbu mgo : Nat → Int32} {mpu mwo : Nat → Nat → Int32} {mso : Nat → Int32} {mun : Nat → Int64} {pab pbe hsh : Nat → Nat → Int64} {tab tbe : Nat → Int64} {rps : Int32} {rln : Int64} {vno vpa : Nat → Int32} {vpr vsp : Nat → Int64} {vli vab vbe : Nat → Int32} (h : pzI kno kun mbu mgo mpu mwo mso mun pab pbe hsh tab tbe rps rln vno vpa vpr vsp vli vab vbe) : ∃ c, c < 9 ∧ kno = nI c := by
  obtain ⟨c, u, hc, -, hk, -⟩ := h
  exact ⟨c, hc, hk⟩
theorem po_undo {rth rps : Int32} {rln : Int64} {vno vpa : Nat → Int32} {vpr vsp : Nat → Int64} {vli vop : Nat → Int32} {vpu vre vpt : Nat → Int64} {vgr vab vbe : Nat → Int32} {krg : Nat → Option Nat} {kno kun : Int32} {mbu mgo : Nat → Int32} {mpu mwo : Nat → Nat → Int32} {mso : Nat → Int32} {mun : Nat → Int64} {pab pbe hsh : Nat → Nat → Int64} {tab tbe oar : Nat → Int64} {c : Nat} (hI : pzI kno kun mbu mgo mpu mwo mso mun pab pbe hsh tab tbe rps rln vno vpa vpr vsp vli vab vbe) (hc : c < 9) (hk : kno = nI c) :
    ∃ r, fi_undo krg kno kun rth rps rln vno vpa vpr vsp vli vop vpu vre vpt vgr vab vbe oar = some r ∧ pzI r.1 r.2.1 mbu mgo mpu mwo mso mun pab pbe hsh tab tbe r.2.2.2.1 r.2.2.2.2.1 r.2.2.2.2.2.1 vpa r.2.2.2.2.2.2.1 r.2.2.2.2.2.2.2.1 r.2.2.2.2.2.2.2.2.1 vab vbe := by
  subst hk
  have hI' := hI
  obtain ⟨c', u, hc', hu, hk', hku, hrp, ⟨nb, ng, m, v, hB, hSr⟩, hK, hT⟩ := hI
  have ec : c = c' := (nI_eq (by omega) (by omega)).mp hk'
  subst ec
  subst hku hrp
  have hB' := hB
  obtain ⟨hA, h1, h2, h3, h4, hr, h6⟩ := hB
  have hA' := hA
  have hr' := hr
  obtain ⟨r0, r1, r3, r6⟩ := hr
  obtain ⟨hb, hg, hm1, hm0, hv9, hv0⟩ := hA
  unfold fi_undo f_L_undo f_K_undo f_R_undo f_R_thrown
  by_cases hu0 : u = 0
  · subst hu0
    rw [if_pos (show nI 0 = 0 from rfl), if_pos (show nI 0 = 0 from rfl)]
    simp only [Option.bind_some, gq_e, if_true, if_neg (show ¬ (1 : Int32) = 0 by decide)]
    exact ⟨_, rfl, hI'⟩
  · have hne : ¬ nI u = 0 := nI_ne0 (by omega) (by omega)
    have eu : nI u - 1 = nI (u - 1) := by
      have := nI_pred (u - 1); rw [show u - 1 + 1 = u by omega] at this; exact this
    have ek : (if nI c = 0 then (some (Sum.inl (nI u - 1, (8 : Int32), nI u - 1)) : Option ((Int32 × Int32 × Int32) ⊕ String)) else some (Sum.inl (nI u - 1, nI c - 1, nI u - 1))) = some (Sum.inl (nI (u - 1), nI ((c + 8) % 9), nI (u - 1))) := by
      rw [eu]
      by_cases h0 : c = 0
      · subst h0; rw [if_pos (show nI 0 = 0 from rfl)]; rfl
      · have ec : nI c - 1 = nI (c - 1) := by
          have := nI_pred (c - 1); rw [show c - 1 + 1 = c by omega] at this; exact this
        rw [if_neg (nI_ne0 (by omega) (by omega)), ec, show (c + 8) % 9 = c - 1 by omega]
    have hcopy : gq_it 1000000 (fb_R_undo_37 (nI u) vpa) (0, vno) = some (fun x => if x < 15 then vpa (15 * (u - 1) + x) else vno x) := by
      refine pz_for (fun k => (nI k, fun x => if x < k then vpa (15 * (u - 1) + x) else vno x)) 0 15 (by omega) (by omega) (fun k _ hk => ?_) ?_
      · have up := @pz_updI (fun x => vpa (15 * (u - 1) + x)) vno k
        simp only [fb_R_undo_37, if_neg (show ¬ (15 : Int32) ≤ nI k from nI_ge (b := 15) hk (by omega)), eu, pz_c15, pz_g (show 15 * (u - 1) + k < 120 by omega), pz_g hk, pz_c (n := k) (by omega), pz_c (n := 15 * (u - 1) + k) (by omega), nI_1]
        rw [up]
      · simp only [fb_R_undo_37]
        rw [if_pos (show (15 : Int32) ≤ nI 15 from nI_le (a := 15) (Nat.le_refl 15) (by omega))]
    have hrel := pm_Rel_row (row' := fun x => if x < 15 then vpa (15 * (u - 1) + x) else vno x) (hK 1 (by omega) (by omega)) (fun x hx => if_pos hx)
    rw [show (c + 9 - 1) % 9 = (c + 8) % 9 by omega] at hrel
    rw [if_neg hne, if_neg hne, ek, hcopy, eu]
    have hK' : ∀ k, 1 ≤ k → k ≤ u - 1 → pm_Rel (mbu (((c + 8) % 9 + 9 - k) % 9)) (mgo (((c + 8) % 9 + 9 - k) % 9)) (mpu (((c + 8) % 9 + 9 - k) % 9)) (mwo (((c + 8) % 9 + 9 - k) % 9)) (mso (((c + 8) % 9 + 9 - k) % 9)) (mun (((c + 8) % 9 + 9 - k) % 9)) (pab (((c + 8) % 9 + 9 - k) % 9)) (pbe (((c + 8) % 9 + 9 - k) % 9)) (hsh (((c + 8) % 9 + 9 - k) % 9)) (fun x => vpa (15 * (u - 1 - k) + x)) := fun k k1 k2 => by
      have := hK (k + 1) (by omega) (by omega)
      rw [show ((c + 8) % 9 + 9 - k) % 9 = (c + 9 - (k + 1)) % 9 by omega]
      exact pm_Rel_row this (fun x hx => by rw [show u - 1 - k = u - (k + 1) by omega])
    obtain ⟨nb2, ng2, m2, v2, hB2⟩ := hrel
    have hB2' := hB2
    obtain ⟨hA2, b1, b2, b3, b4, hr2, b6⟩ := hB2
    simp only [Option.bind_some, gq_e, pz_g0 (show 0 < 1 by omega) (by omega), pz_t0, pk_uLs]
    rcases b6 with ⟨s0, w0⟩ | ⟨s1, w1, hSv⟩
    · have hsv := fun a1 a2 a3 a4 a5 a6 a7 a8 a9 a10 a11 a12 a13 a14 => @pr_isSolved a1 a2 a3 (fun x => if x < 15 then vpa (15 * (u - 1) + x) else vno x) a4 a5 a6 a7 a8 a9 a10 a11 a12 a13 a14 false w0
      simp only [hsv, Option.bind_some, if_pos (show pz_B false = 0 from rfl), pz_lgr, if_true]
      refine ⟨_, rfl, (c + 8) % 9, u - 1, by omega, by omega, rfl, rfl, rfl, ⟨nb2, ng2, m2, v2, hB2', fun h => ?_⟩, hK', hT⟩
      exact absurd (w0.symm.trans h) (by decide)
    · have hsv := fun a1 a2 a3 a4 a5 a6 a7 a8 a9 a10 a11 a12 a13 a14 => @pr_isSolved a1 a2 a3 (fun x => if x < 15 then vpa (15 * (u - 1) + x) else vno x) a4 a5 a6 a7 a8 a9 a10 a11 a12 a13 a14 true w1
      obtain ⟨r, f1, U, p, f2⟩ := @pr_find 0 (nI (u - 1)) rln (fun x => if x < 15 then vpa (15 * (u - 1) + x) else vno x) vpa vpr vsp vli vop vpu vre vpt vgr vab vbe nb2 ng2 m2 v2 hA2 hr2 hSv.1
      simp only [hsv, Option.bind_some, if_neg (show ¬ pz_B true = 0 by decide), f1, pz_lgr, if_true]
      refine ⟨_, rfl, (c + 8) % 9, u - 1, by omega, by omega, rfl, rfl, rfl, ⟨nb2, ng2, m2, v2, hB2', fun h => ?_⟩, hK', hT⟩
      exact ⟨U, p, f2.1, f2.2.1, f2.2.2.1, f2.2.2.2.1, f2.2.2.2.2.1, f2.2.2.2.2.2.1, f2.2.2.2.2.2.2⟩
theorem po_count {rth rps : Int32} {rln : Int64} {vno vpa : Nat → Int32} {vpr vsp : Nat → Int64} {vli vop : Nat → Int32} {vpu vre vpt : Nat → Int64} {vgr vab vbe : Nat → Int32} {krg : Nat → Option Nat} {kno kun : Int32} {mbu mgo : Nat → Int32} {mpu mwo : Nat → Nat → Int32} {mso : Nat → Int32} {mun : Nat → Int64} {pab pbe hsh : Nat → Nat → Int64} {tab tbe oar : Nat → Int64} {c : Nat} {a : Int32} (hI : pzI kno kun mbu mgo mpu mwo mso mun pab pbe hsh tab tbe rps rln vno vpa vpr vsp vli vab vbe) (hc : c < 9) (hk : kno = nI c) : ∃ r, fi_count krg kno kun rth rps rln vno vpa vpr vsp vli vop vpu vre vpt vgr vab vbe mbu mgo mpu mwo mso mun c a = some r := by
  subst hk
  have hI' := hI
  obtain ⟨c', u, hc', hu, hk', hku, hrp, ⟨nb, ng, m, v, hB, hSr⟩, hK, hT⟩ := hI
  have ec : c = c' := (nI_eq (by omega) (by omega)).mp hk'
  subst ec
  subst hku hrp
  have hB' := hB
  obtain ⟨hA, h1, h2, h3, h4, hr, h6⟩ := hB
  have hA' := hA
  have hr' := hr
  obtain ⟨r0, r1, r3, r6⟩ := hr
  obtain ⟨hb, hg, hm1, hm0, hv9, hv0⟩ := hA
  unfold fi_count f_K_count f_R_count
  by_cases h : a = 0
  · rw [if_pos h]
    simp only [if_true, pz_g hc', Option.bind_some, pr_buyers r0, h1]
    exact ⟨_, rfl⟩
  · rw [if_neg h]
    simp only [if_neg (show ¬ (1 : Int32) = 0 by decide), pz_g hc', Option.bind_some, pr_goods r1, h2, if_true]
    exact ⟨_, rfl⟩
theorem po_ready {rth rps : Int32} {rln : Int64} {vno vpa : Nat → Int32} {vpr vsp : Nat → Int64} {vli vop : Nat → Int32} {vpu vre vpt : Nat → Int64} {vgr vab vbe : Nat → Int32} {krg : Nat → Option Nat} {kno kun : Int32} {mbu mgo : Nat → Int32} {mpu mwo : Nat → Nat → Int32} {mso : Nat → Int32} {mun : Nat → Int64} {pab pbe hsh : Nat → Nat → Int64} {tab tbe oar : Nat → Int64} {c : Nat} (hI : pzI kno kun mbu mgo mpu mwo mso mun pab pbe hsh tab tbe rps rln vno vpa vpr vsp vli vab vbe) (hc : c < 9) (hk : kno = nI c) : ∃ r, fi_ready krg kno kun rth rps rln vno vpa vpr vsp vli vop vpu vre vpt vgr vab vbe mbu mgo mpu mwo mso mun c = some r := by
  subst hk
  have hI' := hI
  obtain ⟨c', u, hc', hu, hk', hku, hrp, ⟨nb, ng, m, v, hB, hSr⟩, hK, hT⟩ := hI
  have ec : c = c' := (nI_eq (by omega) (by omega)).mp hk'
  subst ec
  subst hku hrp
  have hB' := hB
  obtain ⟨hA, h1, h2, h3, h4, hr, h6⟩ := hB
  have hA' := hA
  have hr' := hr
  obtain ⟨r0, r1, r3, r6⟩ := hr
  obtain ⟨hb, hg, hm1, hm0, hv9, hv0⟩ := hA
  have e1 := @pk_ready nb ng c krg (nI u) (mso c) (mun c) (mpu c) (mwo c) m v hA' hc' (fun i j hi hj => h4 i j (by omega) (by omega))
  unfold fi_ready f_R_ready
  rw [h1, h2, e1, pr_readiness hA' hr']
  simp only [Option.bind_some, if_true]
  exact ⟨_, rfl⟩
theorem po_told {rth rps : Int32} {rln : Int64} {vno vpa : Nat → Int32} {vpr vsp : Nat → Int64} {vli vop : Nat → Int32} {vpu vre vpt : Nat → Int64} {vgr vab vbe : Nat → Int32} {krg : Nat → Option Nat} {kno kun : Int32} {mbu mgo : Nat → Int32} {mpu mwo : Nat → Nat → Int32} {mso : Nat → Int32} {mun : Nat → Int64} {pab pbe hsh : Nat → Nat → Int64} {tab tbe oar : Nat → Int64} {c : Nat} {a b : Int32} (hI : pzI kno kun mbu mgo mpu mwo mso mun pab pbe hsh tab tbe rps rln vno vpa vpr vsp vli vab vbe) (hc : c < 9) (hk : kno = nI c) : ∃ r, fi_told krg kno kun rth rps rln vno vpa vpr vsp vli vop vpu vre vpt vgr vab vbe oar mbu mgo mpu mwo mso mun c a b = some r := by
  subst hk
  have hI' := hI
  obtain ⟨c', u, hc', hu, hk', hku, hrp, ⟨nb, ng, m, v, hB, hSr⟩, hK, hT⟩ := hI
  have ec : c = c' := (nI_eq (by omega) (by omega)).mp hk'
  subst ec
  subst hku hrp
  have hB' := hB
  obtain ⟨hA, h1, h2, h3, h4, hr, h6⟩ := hB
  have hA' := hA
  have hr' := hr
  obtain ⟨r0, r1, r3, r6⟩ := hr
  obtain ⟨hb, hg, hm1, hm0, hv9, hv0⟩ := hA
  unfold fi_told f_L_told f_K_told f_R_told f_R_thrown
  simp only [Option.bind_some, h1, h2]
  rcases pk_idx a hb with q | ⟨i, hi, rfl⟩
  · rw [(pk_needBuyer hc' hb a).1 q, (pr_isBuyer hb r0 a).1 q]
    simp only [Option.bind_some, gq_e, if_true, if_neg (show ¬ (1 : Int32) = 0 by decide)]
    exact ⟨_, rfl⟩
  · rw [(pk_needBuyer hc' hb (nI i)).2 i hi rfl, (pr_isBuyer hb r0 (nI i)).2 i hi rfl]
    simp only [Option.bind_some, gq_e, if_neg (show ¬ (1 : Int32) = 0 by decide)]
    by_cases hm : b = -1
    · rw [if_pos hm, if_pos hm, if_pos hm]
      simp only [pz_g hc', pz_g (show i < 3 by omega), pz_c (n := i) (by omega), pr_purseOf (show i < 3 by omega) (r3 i hi), h3 i hi, Option.bind_some, pz_g0 (show 0 < 1 by omega) (by omega), pz_t0, pk_uLs, pz_lgr, if_true]
      exact ⟨_, rfl⟩
    · rw [if_neg hm, if_neg hm, if_neg hm]
      rcases pk_idx b hg with q | ⟨j, hj, rfl⟩
      · rw [(pk_needGood hc' hg b).1 q, (pr_isGood hg r1 b).1 q]
        simp only [Option.bind_some, gq_e, if_true, if_neg (show ¬ (1 : Int32) = 0 by decide)]
        exact ⟨_, rfl⟩
      · rw [(pk_needGood hc' hg (nI j)).2 j hj rfl, (pr_isGood hg r1 (nI j)).2 j hj rfl]
        simp only [Option.bind_some, gq_e, if_neg (show ¬ (1 : Int32) = 0 by decide), pz_g hc', pd_cell, pz_g (show 3 * i + j < 9 by omega), pz_c (n := 3 * i + j) (by omega), h4 i j (by omega) (by omega), pr_valueOf (show i < 3 by omega) (show j < 3 by omega) (r6 i j hi hj), pz_g0 (show 0 < 1 by omega) (by omega), pz_t0, pk_uLs, pz_lgr, if_true]
        exact ⟨_, rfl⟩
theorem po_tryPrice {rth rps : Int32} {rln : Int64} {vno vpa : Nat → Int32} {vpr vsp : Nat → Int64} {vli vop : Nat → Int32} {vpu vre vpt : Nat → Int64} {vgr vab vbe : Nat → Int32} {krg : Nat → Option Nat} {kno kun : Int32} {mbu mgo : Nat → Int32} {mpu mwo : Nat → Nat → Int32} {mso : Nat → Int32} {mun : Nat → Int64} {pab pbe hsh : Nat → Nat → Int64} {tab tbe oar : Nat → Int64} {c : Nat} {a b d : Int32} (hI : pzI kno kun mbu mgo mpu mwo mso mun pab pbe hsh tab tbe rps rln vno vpa vpr vsp vli vab vbe) (hc : c < 9) (hk : kno = nI c) :
    ∃ r, fi_tryPrice krg kno kun tab tbe rth rps rln vno vpa vpr vsp vli vop vpu vre vpt vgr vab vbe a b d = some r ∧ pzI kno kun mbu mgo mpu mwo mso mun pab pbe hsh r.1 r.2.1 rps rln vno vpa vpr vsp vli r.2.2.2.1 r.2.2.2.2 := by
  subst hk
  have hI' := hI
  obtain ⟨c', u, hc', hu, hk', hku, hrp, ⟨nb, ng, m, v, hB, hSr⟩, hK, hT⟩ := hI
  have ec : c = c' := (nI_eq (by omega) (by omega)).mp hk'
  subst ec
  subst hku hrp
  have hB' := hB
  obtain ⟨hA, h1, h2, h3, h4, hr, h6⟩ := hB
  have hA' := hA
  have hr' := hr
  obtain ⟨r0, r1, r3, r6⟩ := hr
  obtain ⟨hb, hg, hm1, hm0, hv9, hv0⟩ := hA
  obtain ⟨t0, t1, t2, t3, t9, t20, t21, tk, tm⟩ := pk_t
  unfold fi_tryPrice f_L_tryPrice f_K_tryPrice f_R_tryPrice f_R_thrown
  have nIO : ¬ "java/lang/IllegalArgumentException" = "java/lang/IndexOutOfBoundsException" := by decide
  rcases pk_idx a (n := 3) (by omega) with q | ⟨i, hi, rfl⟩
  · have e1 : ∀ (X : Option (((Nat → Int64) × (Nat → Int64)) ⊕ String)), (if a < 0 then some (.inr "java/lang/IndexOutOfBoundsException") else if a < 3 then X else some (.inr "java/lang/IndexOutOfBoundsException")) = some (.inr "java/lang/IndexOutOfBoundsException") := fun X => by
      by_cases h0 : a < 0
      · rw [if_pos h0]
      · rw [if_neg h0, if_neg]
        rw [pj_lt, t0] at h0
        rw [pj_lt, t3]; omega
    have e2 : ∀ (X : Option (Int32 × (Nat → Int32) × (Nat → Int32))), (if a < 0 then some (1, vab, vbe) else if a ≤ 2 then X else some (1, vab, vbe)) = some (1, vab, vbe) := fun X => by
      by_cases h0 : a < 0
      · rw [if_pos h0]
      · rw [if_neg h0, if_neg]
        rw [pj_lt, t0] at h0
        rw [pj_le, t2]; omega
    rw [e1, e2]
    simp only [Option.bind_some, gq_e, if_true]
    exact ⟨_, rfl, hI'⟩
  · rw [if_neg (nI_pos (by omega)), if_pos (show nI i < 3 from nI_lt (b := 3) hi (by omega)), if_neg (nI_pos (by omega)), if_pos (show nI i ≤ 2 from nI_le (b := 2) (by omega) (by omega))]
    rcases pk_within b (lo := 1) (hi := 100000) (by omega) (by omega) with ⟨w1, w2⟩ | ⟨x, x1, x2, rfl, w1⟩
    · have e2 : ∀ (X : Option (Int32 × (Nat → Int32) × (Nat → Int32))), (if b < 1 then some (2, vab, vbe) else if 100000 < b then some (2, vab, vbe) else X) = some (2, vab, vbe) := fun X => by
        by_cases h0 : b < 1
        · rw [if_pos h0]
        · rw [if_neg h0, if_pos]
          rw [pj_lt, t1] at h0
          rw [pj_lt, tk]; omega
      rw [show f_K_needWithin b 1 100000 = _ from w1, e2]
      simp only [Option.bind_some, gq_e, if_neg nIO, if_true]
      exact ⟨_, rfl, hI'⟩
    · rw [show f_K_needWithin (nI x) 1 100000 = _ from w1, if_neg (show ¬ nI x < 1 from nI_nlt (b := 1) x1 (by omega)), if_neg (show ¬ (100000 : Int32) < nI x from nI_nlt (a := 100000) x2 (by omega))]
      rcases pk_within d (lo := 1) (hi := 100000) (by omega) (by omega) with ⟨y1, y2⟩ | ⟨y, y1, y2, rfl, y3⟩
      · have e2 : ∀ (X : Option (Int32 × (Nat → Int32) × (Nat → Int32))), (if d < 1 then some (2, vab, vbe) else if d ≤ 100000 then X else some (2, vab, vbe)) = some (2, vab, vbe) := fun X => by
          by_cases h0 : d < 1
          · rw [if_pos h0]
          · rw [if_neg h0, if_neg]
            rw [pj_lt, t1] at h0
            rw [pj_le, tk]; omega
        rw [show f_K_needWithin d 1 100000 = _ from y1, e2]
        simp only [Option.bind_some, gq_e, if_neg nIO, if_true]
        exact ⟨_, rfl, hI'⟩
      · rw [show f_K_needWithin (nI y) 1 100000 = _ from y3, if_neg (show ¬ nI y < 1 from nI_nlt (b := 1) y1 (by omega)), if_pos (show nI y ≤ 100000 from nI_le (b := 100000) y2 (by omega))]
        simp only [Option.bind_some, gq_e, pz_g hi, pz_c (n := i) (by omega), if_true, pz_nI (show x < 2 ^ 31 by omega), pz_nI (show y < 2 ^ 31 by omega)]
        obtain ⟨ta, tb, hta⟩ := hT
        refine ⟨_, rfl, c, u, hc', hu, rfl, rfl, rfl, ⟨nb, ng, m, v, hB', hSr⟩, hK, (fun j => if j = i then x else ta j), (fun j => if j = i then y else tb j), fun j hj => ?_⟩
        have q := hta j hj
        dsimp only
        by_cases e : j = i
        · subst e
          simp only [if_true, pk_uLs, pz_upds]
          refine ⟨x1, x2, y1, y2, ?_⟩
          simp
        · simp only [if_neg e, pk_uLn e, pz_updn e]
          exact q
