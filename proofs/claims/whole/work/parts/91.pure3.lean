/-! Pure part 19: the reference's proportion. -/
def pr_bit (W i j : Nat) : Bool := pz_S (pz_w W i) j
/-- the way W goes with the prices q -/
def pr_F (nb ng : Nat) (v : Nat → Nat → Nat) (W : Nat) (q : Nat → Nat) : Prop :=
  (∀ x, x < 3 → 0 < q x) ∧ ∀ i, i < nb → (∃ j, j < ng ∧ pr_bit W i j = true) ∧ (∀ j, j < 3 → pr_bit W i j = true → j < ng ∧ 0 < v i j) ∧ (∀ j k, j < ng → k < ng → pr_bit W i j = true → pr_bit W i k = true → v i j * q k = v i k * q j)
def pr_Rw (ng : Nat) (v : Nat → Nat → Nat) (W : Nat) (grp : Nat → Nat) (a : Nat) : Prop :=
  ∃ f, f < ng ∧ pr_bit W a f = true ∧ (∀ j, j < f → pr_bit W a j = false) ∧ (∀ j, j < ng → pr_bit W a j = true → 0 < v a j ∧ grp j = grp f) ∧ (∀ j, j < 3 → pr_bit W a j = true → j < ng)
theorem pr_Rw_mono {ng a W : Nat} {v : Nat → Nat → Nat} {grp grp' : Nat → Nat} (hg : ng ≤ 3) (h : pr_Rw ng v W grp a) (hm : ∀ x y, x < 3 → y < 3 → grp x = grp y → grp' x = grp' y) : pr_Rw ng v W grp' a := by
  obtain ⟨f, h1, h2, h3, h4, h5⟩ := h
  exact ⟨f, h1, h2, h3, fun j hj hb => ⟨(h4 j hj hb).1, hm j f (by omega) (by omega) (h4 j hj hb).2⟩, h5⟩
def pr_St (nb ng : Nat) (v : Nat → Nat → Nat) (W n : Nat) (vpt : Nat → Int64) (vgr : Nat → Int32) (part grp : Nat → Nat) : Prop :=
  (∀ x, x < 3 → vpt x = pz (part x)) ∧ (∀ x, x < 3 → vgr x = nI (grp x)) ∧ pr_G part grp ∧ (∀ a, a < n → pr_Rw ng v W grp a) ∧ (∀ q, pr_F nb ng v W q → pr_Gc part grp q)
theorem pr_proportion {rth rps : Int32} {rln : Int64} {vno vpa : Nat → Int32} {vpr vsp : Nat → Int64} {vli vop : Nat → Int32} {vpu vre vpt : Nat → Int64} {vgr vab vbe : Nat → Int32} {nb ng W : Nat} {m : Nat → Nat} {v : Nat → Nat → Nat} (hA : pm_A nb ng m v) (hr : pm_R nb ng m v vno) (hW : W < 512) :
    ∃ (fl : Bool) (vpt' : Nat → Int64) (vgr' : Nat → Int32), f_R_proportion rth rps rln vno vpa vpr vsp vli vop vpu vre vpt vgr vab vbe (nI W) = some (pz_B fl, vpt', vgr') ∧ (fl = true → ∃ part grp, pr_St nb ng v W nb vpt' vgr' part grp) ∧ (∀ q, pr_F nb ng v W q → fl = true) := by
  have hA' := hA
  have hr' := hr
  obtain ⟨hb, hg, hm1, hm0, hv9, hv0⟩ := hA
  obtain ⟨r0, r1, r3, r6⟩ := hr
  have e0 : gq_it 1000000 fb_R_proportion_2 (0, vpt, vgr) = some ((fun x => if x < 3 then pz 1 else vpt x), (fun x => if x < 3 then nI x else vgr x)) := by
    refine pz_for (fun k => (nI k, (fun x => if x < k then pz 1 else vpt x), (fun x => if x < k then nI x else vgr x))) 0 3 (by omega) (by omega) (fun k _ hk => ?_) ?_
    · simp only [fb_R_proportion_2, if_neg (show ¬ (3 : Int32) ≤ nI k from nI_ge (b := 3) hk (by omega)), pz_g hk, pz_c (n := k) (by omega), nI_1]
      have u1 := @pz_updL (fun _ => pz 1) vpt k
      have u2 := @pz_updI (fun x => nI x) vgr k
      rw [show (1 : Int64) = pz 1 from rfl, u1, u2]
    · simp only [fb_R_proportion_2]
      rw [if_pos (show (3 : Int32) ≤ nI 3 from nI_le (a := 3) (Nat.le_refl 3) (by omega))]
  have main : ∃ x, gq_it 1000000 (fb_R_proportion_29 rth rps rln vno vpa vpr vsp vli vop vpu vre vab vbe (nI W)) (0, (fun x => if x < 3 then pz 1 else vpt x), (fun x => if x < 3 then nI x else vgr x)) = some x ∧ gq_e (fun _ => ∀ q, ¬ pr_F nb ng v W q) (gq_e (fun _ => ∀ q, ¬ pr_F nb ng v W q) (fun y => ∃ part grp, pr_St nb ng v W nb y.1 y.2 part grp)) x := by
    refine pz_invF (fun i z => z.1 = nI i ∧ ∃ part grp, pr_St nb ng v W i z.2.1 z.2.2 part grp) 0 nb (by omega) (by omega) ⟨rfl, fun _ => 1, fun x => x, fun x hx => if_pos hx, fun x hx => if_pos hx, fun x hx => ⟨hx, Nat.le_refl 1, Nat.pow_pos (by omega)⟩, fun a h => by omega, fun q _ x y _ _ h => by simp only at h; subst h; rfl⟩ (fun i z hi hz => ?_) (fun z hz => ?_)
    · obtain ⟨z1, part, grp, zp, zg, zG, zR, zc⟩ := hz
      have w8 := @pz_w_lt W i
      simp only [fb_R_proportion_29, z1, pr_buyers r0, pr_goods r1, Option.bind_some, if_neg (pz_ge hi hb), pz_wI W hW i (by omega)]
      have hsh := pz_shr (pz_w W i) w8 ng hg
      by_cases hs : ∀ j, j < 3 → pz_S (pz_w W i) j = true → j < ng
      · rw [if_pos (hsh.mpr hs)]
        obtain ⟨y, y1, y2⟩ := @pr_firstOf rth rps rln vno vpa vpr vsp vli vop vpu vre z.2.1 z.2.2 vab vbe nb ng i (pz_w W i) m v hA' hr' hi w8
        rw [y1, Option.bind_some]
        rcases y2 with ⟨ye, y3⟩ | ⟨f, hf, ye, f1, f2, f3⟩
        · rw [ye, if_neg (by decide)]
          refine Or.inr ⟨_, rfl, ?_⟩
          intro q hq
          obtain ⟨-, hq⟩ := hq
          obtain ⟨⟨j0, j1, j2⟩, hq2, -⟩ := hq i hi
          rcases y3 with ⟨j, j3, j4, j5⟩ | y3
          · have := (hq2 j (by omega) j4).2; omega
          · have := y3 j0 j1; unfold pr_bit at j2; rw [j2] at this; cases this
        · rw [ye, if_pos (nI_pos' (by omega)), nI_1]
          have inner : ∃ x, gq_it 1000000 (fb_R_proportion_80 rth rps rln vno vpa vpr vsp vli vop vpu vre vab vbe (nI W) z (nI f)) (nI (f + 1), z.2.1, z.2.2) = some x ∧ gq_e (fun _ => ∀ q, ¬ pr_F nb ng v W q) (fun y => ∃ part grp, pr_St nb ng v W (i + 1) y.1 y.2 part grp) x := by
            refine pz_invF (fun k y => y.1 = nI k ∧ f < k ∧ ∃ part grp, pr_St nb ng v W i y.2.1 y.2.2 part grp ∧ ∀ j, j < k → pz_S (pz_w W i) j = true → grp j = grp f) (f + 1) ng (by omega) (by omega) ⟨rfl, by omega, part, grp, ⟨zp, zg, zG, zR, zc⟩, fun j hj hbit => by
              by_cases e : j = f
              · rw [e]
              · rw [f2 j (by omega)] at hbit; cases hbit⟩ (fun k y hk hy => ?_) (fun y hy => ?_)
            · obtain ⟨y1, fk, part, grp, ⟨yp, yg, yG, yR, yc⟩, yb⟩ := hy
              simp only [fb_R_proportion_80, y1, z1, pr_goods r1, Option.bind_some, if_neg (pz_ge hk hg), pz_wI W hW i (by omega), pz_hasR (show pz_w W i < 512 by omega) (show k < 9 by omega), nI_1]
              cases hbk : pz_S (pz_w W i) k
              · simp only [Bool.false_eq_true, if_false, if_true]
                refine Or.inl ⟨_, rfl, rfl, by omega, part, grp, ⟨yp, yg, yG, yR, yc⟩, fun j hj hbit => ?_⟩
                by_cases e : j = k
                · rw [e, hbk] at hbit; cases hbit
                · exact yb j (by omega) hbit
              · simp only [if_true, if_neg (show ¬ (1 : Int32) = 0 by decide)]
                obtain ⟨fl, part', grp', vpt', vgr', t1, t2, t3, t4, t5, t6, t7⟩ := @pr_tie rth rps rln vno vpa vpr vsp vli vop vpu vre y.2.1 y.2.2 vab vbe nb ng i f k m v part grp hA' hr' yp yg yG hi hf hk (f3 f hf f1) (f3 k hk hbk)
                rw [t1, Option.bind_some]
                have hqq : ∀ q, pr_F nb ng v W q → fl = true ∧ pr_Gc part' grp' q := fun q hq => t7 q hq.1 (yc q hq) ((hq.2 i hi).2.2 f k hf hk f1 hbk)
                cases fl
                · refine Or.inr ⟨_, rfl, ?_⟩
                  intro q hq
                  have := (hqq q hq).1
                  cases this
                · refine Or.inl ⟨_, rfl, rfl, by omega, part', grp', ⟨t2, t3, t4, fun a ha => pr_Rw_mono hg (yR a ha) t6, fun q hq => (hqq q hq).2⟩, fun j hj hbit => ?_⟩
                  by_cases e : j = k
                  · rw [e]; exact (t5 rfl).symm
                  · exact t6 j f (by omega) (by omega) (yb j (by omega) hbit)
            · obtain ⟨y1, fk, part, grp, ⟨yp, yg, yG, yR, yc⟩, yb⟩ := hy
              simp only [fb_R_proportion_80, y1, pr_goods r1, Option.bind_some, if_pos (pz_le' (Nat.le_refl ng) hg)]
              refine ⟨_, rfl, part, grp, yp, yg, yG, fun a ha => ?_, yc⟩
              by_cases e : a = i
              · rw [e]
                exact ⟨f, hf, f1, f2, fun j hj hbit => ⟨f3 j hj hbit, yb j hj hbit⟩, hs⟩
              · exact yR a (by omega)
          obtain ⟨x, x1, x2⟩ := inner
          rw [x1, Option.bind_some]
          cases x with
          | inl u => exact Or.inr ⟨_, rfl, x2⟩
          | inr u => exact Or.inl ⟨_, rfl, nI_1 i, x2⟩
      · rw [if_neg (fun q => hs (hsh.mp q))]
        refine Or.inr ⟨_, rfl, ?_⟩
        intro q hq
        exact hs (fun j hj hbit => ((hq.2 i hi).2.1 j hj hbit).1)
    · obtain ⟨z1, part, grp, hz⟩ := hz
      simp only [fb_R_proportion_29, z1, pr_buyers r0, Option.bind_some, if_pos (pz_le' (Nat.le_refl nb) hb)]
      exact ⟨_, rfl, part, grp, hz⟩
  obtain ⟨x, x1, x2⟩ := main
  unfold f_R_proportion
  rw [e0, Option.bind_some, x1, Option.bind_some]
  cases x with
  | inl u => exact ⟨false, _, _, rfl, (fun h => by cases h), fun q hq => absurd hq (x2 q)⟩
  | inr u =>
    cases u with
    | inl u => exact ⟨false, _, _, rfl, (fun h => by cases h), fun q hq => absurd hq (x2 q)⟩
    | inr u => exact ⟨true, _, _, rfl, fun _ => x2, fun q _ => rfl⟩
/-! Pure part 20: the reference's priceBy. -/
def pn_s (f : Nat → Nat) : Nat → Nat
  | 0 => 0
  | n + 1 => pn_s f n + f n
theorem pn_s_le {f : Nat → Nat} {B : Nat} : ∀ {n : Nat}, (∀ j, j < n → f j ≤ B) → pn_s f n ≤ n * B
  | 0, _ => by simp [pn_s]
  | n + 1, h => by
    have h1 := @pn_s_le f B n (fun j hj => h j (by omega))
    have h2 := h n (by omega)
    rw [pn_s, Nat.succ_mul]; omega
theorem pn_s_ge {f : Nat → Nat} {j : Nat} : ∀ {n : Nat}, j < n → f j ≤ pn_s f n
  | 0, h => by omega
  | n + 1, h => by
    rw [pn_s]
    by_cases e : j = n
    · rw [e]; omega
    · have := @pn_s_ge f j n (by omega); omega
theorem pn_s_z {f : Nat → Nat} : ∀ {n : Nat}, ((pn_s f n : Nat) : Int) = pz_s (fun j => (f j : Int)) n
  | 0 => rfl
  | n + 1 => by rw [pn_s, pz_s, Int.natCast_add, pn_s_z]
def pr_P (ng : Nat) (part grp : Nat → Nat) (g : Nat) : Nat := pn_s (fun j => if grp j = g then part j else 0) ng
def pr_gs (ng : Nat) (grp : Nat → Nat) (g : Nat) : Nat → Bool := fun j => decide (j < ng ∧ grp j = g)
def pr_M (nb ng : Nat) (m : Nat → Nat) (W : Nat) (grp : Nat → Nat) (g : Nat) : Nat := pn_s (fun i => if mq_g (pr_bit W) (pr_gs ng grp g) i = true then m i else 0) nb
theorem pr_partsOf {rth rps : Int32} {rln : Int64} {vno vpa : Nat → Int32} {vpr vsp : Nat → Int64} {vli vop : Nat → Int32} {vpu vre vpt : Nat → Int64} {vgr vab vbe : Nat → Int32} {ng g : Nat} {part grp : Nat → Nat} (hg : ng ≤ 3) (hn : vno 1 = nI ng) (hp : ∀ x, x < 3 → vpt x = pz (part x)) (hgr : ∀ x, x < 3 → vgr x = nI (grp x)) (hG : pr_G part grp) (hg3 : g < 3) :
    f_R_partsOf rth rps rln vno vpa vpr vsp vli vop vpu vre vpt vgr vab vbe (nI g) = some (pz (pr_P ng part grp g)) := by
  have e : gq_it 1000000 (fb_R_partsOf_5 rth rps rln vno vpa vpr vsp vli vop vpu vre vpt vgr vab vbe (nI g)) (0, 0) = some (pz (pr_P ng part grp g)) := by
    refine pz_for (fun k => (nI k, pz (pn_s (fun j => if grp j = g then part j else 0) k))) 0 ng (by omega) (by omega) (fun k _ hk => ?_) ?_
    · have h3 := (hG k (by omega)).1
      simp only [fb_R_partsOf_5, pr_goods hn, Option.bind_some, if_neg (pz_ge hk hg), pz_g (show k < 3 by omega), pz_c (n := k) (by omega), hgr k (by omega), hp k (by omega), nI_eq (show grp k < 2 ^ 31 by omega) (show g < 2 ^ 31 by omega), nI_1, pz_add, pn_s]
      by_cases h : grp k = g
      · simp [h]
      · simp [h]
    · simp only [fb_R_partsOf_5, pr_goods hn, Option.bind_some, if_pos (pz_le' (Nat.le_refl ng) hg)]; rfl
  unfold f_R_partsOf
  rw [e]; rfl
theorem pr_moneyOf {rth rps : Int32} {rln : Int64} {vno vpa : Nat → Int32} {vpr vsp : Nat → Int64} {vli vop : Nat → Int32} {vpu vre vpt : Nat → Int64} {vgr vab vbe : Nat → Int32} {nb ng g W : Nat} {m : Nat → Nat} {v : Nat → Nat → Nat} {part grp : Nat → Nat} (hA : pm_A nb ng m v) (hr : pm_R nb ng m v vno) (hW : W < 512) (hS : pr_St nb ng v W nb vpt vgr part grp) (hg3 : g < 3) :
    f_R_moneyOf rth rps rln vno vpa vpr vsp vli vop vpu vre vpt vgr vab vbe (nI g) (nI W) = some (nI (pr_M nb ng m W grp g)) := by
  have hA' := hA
  have hr' := hr
  obtain ⟨hb, hg, hm1, hm0, hv9, hv0⟩ := hA
  obtain ⟨r0, r1, r3, r6⟩ := hr
  obtain ⟨sp, sg, sG, sR, -⟩ := hS
  have e : gq_it 1000000 (fb_R_moneyOf_5 rth rps rln vno vpa vpr vsp vli vop vpu vre vpt vgr vab vbe (nI g) (nI W)) (0, 0) = some (nI (pr_M nb ng m W grp g)) := by
    refine pz_for (fun k => (nI k, nI (pn_s (fun i => if mq_g (pr_bit W) (pr_gs ng grp g) i = true then m i else 0) k))) 0 nb (by omega) (by omega) (fun k _ hk => ?_) ?_
    · obtain ⟨f, f1, f2, f3, f4, f5⟩ := sR k hk
      obtain ⟨y, y1, y2⟩ := @pr_firstOf rth rps rln vno vpa vpr vsp vli vop vpu vre vpt vgr vab vbe nb ng k (pz_w W k) m v hA' hr' hk pz_w_lt
      have hy : y = nI f := by
        rcases y2 with ⟨-, ⟨j, q1, q2, q3⟩ | q⟩ | ⟨f', g1, g2, g3, g4, g5⟩
        · have := (f4 j q1 q2).1; omega
        · have := q f f1; unfold pr_bit at f2; rw [f2] at this; cases this
        · have : f' = f := by
            rcases Nat.lt_trichotomy f' f with q | q | q
            · have := f3 f' q; unfold pr_bit at this; rw [g3] at this; cases this
            · exact q
            · have := g4 f q; unfold pr_bit at f2; rw [f2] at this; cases this
          rw [g2, this]
      have hmem : mq_g (pr_bit W) (pr_gs ng grp g) k = decide (grp f = g) := by
        rw [Bool.eq_iff_iff, decide_eq_true_iff]
        constructor
        · intro h
          obtain ⟨j, j1, j2, j3⟩ := mq_g_ex h
          unfold pr_gs at j2
          rw [decide_eq_true_iff] at j2
          rw [← (f4 j j2.1 j3).2]; exact j2.2
        · intro h
          exact mq_g_in (show f < 3 by omega) (by unfold pr_gs; rw [decide_eq_true_iff]; exact ⟨f1, h⟩) f2
      have gf := (sG f (by omega)).1
      simp only [fb_R_moneyOf_5, pr_buyers r0, Option.bind_some, if_neg (pz_ge hk hb), pz_wI W hW k (by omega), y1, hy, pz_g (show f < 3 by omega), pz_c (n := f) (by omega), sg f (by omega), nI_eq (show grp f < 2 ^ 31 by omega) (show g < 2 ^ 31 by omega), pr_purseOf (show k < 3 by omega) (r3 k hk), nI_1, nI_add, pn_s, hmem, decide_eq_true_iff]
      by_cases h : grp f = g
      · rw [if_pos h, if_pos h]
      · rw [if_neg h, if_neg h]; rfl
    · simp only [fb_R_moneyOf_5, pr_buyers r0, Option.bind_some, if_pos (pz_le' (Nat.le_refl nb) hb)]; rfl
  unfold f_R_moneyOf
  rw [e]; rfl
theorem pr_P_b {ng : Nat} {part grp : Nat → Nat} {j : Nat} (hg : ng ≤ 3) (hG : pr_G part grp) (hj : j < ng) : 1 ≤ pr_P ng part grp (grp j) ∧ pr_P ng part grp (grp j) ≤ 243 := by
  constructor
  · have := @pn_s_ge (fun x => if grp x = grp j then part x else 0) j ng hj
    simp only [if_true] at this
    have h1 := (hG j (by omega)).2.1
    unfold pr_P; omega
  · have := @pn_s_le (fun x => if grp x = grp j then part x else 0) 81 ng (fun x hx => by
      have := pr_G81 hG (show x < 3 by omega)
      split <;> omega)
    unfold pr_P
    have : ng * 81 ≤ 243 := by omega
    omega
theorem pr_M_b {nb ng g W : Nat} {m : Nat → Nat} {v : Nat → Nat → Nat} {grp : Nat → Nat} (hA : pm_A nb ng m v) : pr_M nb ng m W grp g ≤ 60 := by
  have := @pn_s_le (fun i => if mq_g (pr_bit W) (pr_gs ng grp g) i = true then m i else 0) 20 nb (fun i hi => by
    have := (hA.2.2.1 i hi).2
    split <;> omega)
  unfold pr_M
  have h3 := hA.1
  omega
theorem pr_priceBy {rth rps : Int32} {rln : Int64} {vno vpa : Nat → Int32} {vpr vsp : Nat → Int64} {vli vop : Nat → Int32} {vpu vre vpt : Nat → Int64} {vgr vab vbe : Nat → Int32} {nb ng W : Nat} {m : Nat → Nat} {v : Nat → Nat → Nat} {part grp : Nat → Nat} (hA : pm_A nb ng m v) (hr : pm_R nb ng m v vno) (hW : W < 512) (hS : pr_St nb ng v W nb vpt vgr part grp) :
    ∃ (U : Nat) (fl : Bool) (vpr' : Nat → Int64), f_R_priceBy rth rps rln vno vpa vpr vsp vli vop vpu vre vpt vgr vab vbe (nI W) = some (pz_B fl, pz U, vpr') ∧ 1 ≤ U ∧ U ≤ 14348907 ∧ (∀ j, j < ng → pr_P ng part grp (grp j) ∣ U) ∧ (∀ j, j < ng → vpr' j = pz ((U / pr_P ng part grp (grp j) * part j * pr_M nb ng m W grp (grp j) : Nat) : Int)) ∧ (fl = true ↔ ∀ j, j < ng → 0 < U / pr_P ng part grp (grp j) * part j * pr_M nb ng m W grp (grp j)) := by
  have hS' := hS
  obtain ⟨hb, hg, hm1, hm0, hv9, hv0⟩ := hA
  obtain ⟨r0, r1, r3, r6⟩ := hr
  obtain ⟨sp, sg, sG, sR, -⟩ := hS
  have hP := fun j (hj : j < ng) => @pr_P_b ng part grp j hg sG hj
  have e1 : ∃ x, gq_it 1000000 (fb_R_priceBy_7 rth rps vno vpa vpr vsp vli vop vpu vre vpt vgr vab vbe) (0, 1) = some x ∧ ∃ U : Nat, x = pz U ∧ 1 ≤ U ∧ U ≤ 243 ^ ng ∧ ∀ j, j < ng → pr_P ng part grp (grp j) ∣ U := by
    refine pz_invM (fun k z => z.1 = nI k ∧ ∃ U : Nat, z.2 = pz U ∧ 1 ≤ U ∧ U ≤ 243 ^ k ∧ ∀ j, j < k → pr_P ng part grp (grp j) ∣ U) 0 ng (by omega) (by omega) ⟨rfl, 1, rfl, by omega, by omega, fun j h => by omega⟩ (fun k z hk hz => ?_) (fun z hz => ?_)
    · obtain ⟨z1, U, z2, U1, U2, U3⟩ := hz
      obtain ⟨P1, P2⟩ := hP k hk
      have hU3 : U ≤ 243 ^ 2 := Nat.le_trans U2 (Nat.pow_le_pow_right (by omega) (by omega))
      simp only [fb_R_priceBy_7, z1, z2, pr_goods r1, Option.bind_some, if_neg (pz_ge hk hg), pz_g (show k < 3 by omega), pz_c (n := k) (by omega), sg k (by omega), pr_partsOf hg r1 sp sg sG (sG k (by omega)).1, pe_divisor (show U < 2 ^ 62 by omega) (show pr_P ng part grp (grp k) < 2 ^ 61 by omega), nI_1]
      have hd : 0 < Nat.gcd U (pr_P ng part grp (grp k)) := Nat.gcd_pos_of_pos_left _ (by omega)
      have hdl : Nat.gcd U (pr_P ng part grp (grp k)) ≤ U := Nat.gcd_le_left _ (by omega)
      obtain ⟨s, hs⟩ := Nat.gcd_dvd_left U (pr_P ng part grp (grp k))
      obtain ⟨t, ht⟩ := Nat.gcd_dvd_right U (pr_P ng part grp (grp k))
      have hd0 : ¬ pz ((Nat.gcd U (pr_P ng part grp (grp k)) : Nat) : Int) = 0 := fun q => by
        rw [pz_0, pz_eq (pe_R (by omega)) (by constructor <;> decide)] at q; omega
      unfold gq_z
      rw [if_neg hd0]
      refine ⟨_, rfl, rfl, U / Nat.gcd U (pr_P ng part grp (grp k)) * pr_P ng part grp (grp k), ?_, ?_, ?_, fun j hj => ?_⟩
      · show pz (U : Int) / _ * pz _ = _
        rw [pz_div (pe_R (by omega)) (pe_R (by omega)) (by omega), pz_mul]; simp
      · exact Nat.mul_pos (Nat.div_pos hdl hd) P1
      · rw [Nat.pow_succ]
        exact Nat.mul_le_mul (Nat.le_trans (Nat.div_le_self _ _) U2) P2
      · by_cases e : j = k
        · rw [e]; exact ⟨_, Nat.mul_comm _ _⟩
        · refine Nat.dvd_trans (U3 j (by omega)) ?_
          generalize hgd : Nat.gcd U (pr_P ng part grp (grp k)) = d at *
          refine ⟨t, ?_⟩
          rw [show U / d = s by rw [Nat.div_eq_of_eq_mul_right hd hs]]
          calc s * pr_P ng part grp (grp k) = s * (d * t) := by rw [← ht]
            _ = (d * s) * t := by ac_rfl
            _ = U * t := by rw [← hs]
    · obtain ⟨z1, U, z2, U1, U2, U3⟩ := hz
      simp only [fb_R_priceBy_7, z1, pr_goods r1, Option.bind_some, if_pos (pz_le' (Nat.le_refl ng) hg)]
      exact ⟨_, rfl, U, z2, U1, U2, U3⟩
  obtain ⟨x, x1, U, rfl, U1, U2, U3⟩ := e1
  have U4 : U ≤ 14348907 := Nat.le_trans U2 (Nat.le_trans (Nat.pow_le_pow_right (by omega) hg) (by decide))
  have hMb := fun g => @pr_M_b nb ng g W m v grp ⟨hb, hg, hm1, hm0, hv9, hv0⟩
  generalize hp : (fun j => U / pr_P ng part grp (grp j) * part j * pr_M nb ng m W grp (grp j)) = p at *
  have hpj : ∀ j, U / pr_P ng part grp (grp j) * part j * pr_M nb ng m W grp (grp j) = p j := fun j => by rw [← hp]
  have hpb : ∀ j, j < ng → p j ≤ 14348907 * 81 * 60 := fun j hj => by
    rw [← hpj]
    exact Nat.mul_le_mul (Nat.mul_le_mul (Nat.le_trans (Nat.div_le_self _ _) U4) (pr_G81 sG (by omega))) (hMb _)
  have e2 : gq_it 1000000 (fb_R_priceBy_55 rth rps vno vpa vsp vli vop vpu vre vpt vgr vab vbe (nI W) (pz U)) (0, 1, vpr) = some (pz_B (pz_all (fun j => decide (0 < p j)) ng), fun j => if j < ng then pz (p j : Int) else vpr j) := by
    refine pz_for (fun k => (nI k, pz_B (pz_all (fun j => decide (0 < p j)) k), fun j => if j < k then pz (p j : Int) else vpr j)) 0 ng (by omega) (by omega) (fun k _ hk => ?_) ?_
    · obtain ⟨P1, P2⟩ := hP k hk
      have gk := (sG k (by omega)).1
      have hM60 := hMb (grp k)
      have eP := fun vpr' => @pr_partsOf rth rps (pz U) vno vpa vpr' vsp vli vop vpu vre vpt vgr vab vbe ng (grp k) part grp hg r1 sp sg sG gk
      have eM := fun vpr' => @pr_moneyOf rth rps (pz U) vno vpa vpr' vsp vli vop vpu vre vpt vgr vab vbe nb ng (grp k) W m v part grp ⟨hb, hg, hm1, hm0, hv9, hv0⟩ ⟨r0, r1, r3, r6⟩ hW hS' gk
      have hP0 : ¬ pz ((pr_P ng part grp (grp k) : Nat) : Int) = 0 := fun q => by
        rw [pz_0, pz_eq (pe_R (by omega)) (by constructor <;> decide)] at q; omega
      have ep : pz (U : Int) / pz ((pr_P ng part grp (grp k) : Nat) : Int) * pz (part k : Int) * (nI (pr_M nb ng m W grp (grp k))).toInt64 = pz (p k : Int) := by
        rw [pz_div (pe_R (by omega)) (pe_R (by omega)) (by omega), pz_nI (by omega), pz_mul, pz_mul, ← hpj k]; simp
      have eu : vp_updL (fun j => if j < k then pz (p j : Int) else vpr j) k (pz (p k : Int)) k = pz (p k : Int) := by unfold vp_updL; rw [if_pos rfl]
      simp only [fb_R_priceBy_55, pr_goods r1, Option.bind_some, if_neg (pz_ge hk hg), pz_g (show k < 3 by omega), pz_c (n := k) (by omega), sg k (by omega), sp k (by omega), eP, eM, gq_z, if_neg hP0, ep, eu, nI_1, pz_B0]
      rw [pz_updL (F := fun j => pz (p j : Int)), pz_all]
      have hc := pz_cmp (pe_R (show p k < 2 ^ 62 by have := hpb k hk; omega)) (show pz_R 0 by constructor <;> decide)
      rw [pz_0, hc]
      cases pz_all (fun j => decide (0 < p j)) k
      · simp; rfl
      · by_cases h : 0 < p k
        · simp [h]; rfl
        · simp [show p k = 0 by omega]; rfl
    · simp only [fb_R_priceBy_55, pr_goods r1, Option.bind_some, if_pos (pz_le' (Nat.le_refl ng) hg)]
  refine ⟨U, pz_all (fun j => decide (0 < p j)) ng, (fun j => if j < ng then pz (p j : Int) else vpr j), ?_, U1, U4, U3, fun j hj => ?_, ?_⟩
  · unfold f_R_priceBy
    rw [x1, Option.bind_some, e2, Option.bind_some, pz_Bzo]
  · show (if j < ng then pz (p j : Int) else vpr j) = _
    rw [if_pos hj, hpj]
  · rw [pz_all_iff]
    constructor
    · intro h j hj; rw [hpj]; simpa using h j hj
    · intro h j hj; have := h j hj; rw [hpj] at this; simpa using this
/-! Pure part 21: fair prices: scaling, groups, a way without a ring, the judge's 0. -/
theorem mq_L_congr {nb ng : Nat} {v : Nat → Nat → Int} {c d : Nat → Int} {U V : Int} (hU : 0 < U) (hV : 0 < V) (h : ∀ j, j < ng → c j * V = d j * U) : mq_L nb ng v c = mq_L nb ng v d := by
  funext i j
  rw [Bool.eq_iff_iff, mq_L_iff, mq_L_iff]
  have key : ∀ {c d : Nat → Int} {U V : Int}, 0 < U → 0 < V → (∀ j, j < ng → c j * V = d j * U) → (j < ng ∧ (∀ k, k < ng → v i k * c j ≤ v i j * c k)) → (∀ k, k < ng → v i k * d j ≤ v i j * d k) := fun {c d U V} hU hV h hh k hk => by
    obtain ⟨hj, hh⟩ := hh
    have q := Int.mul_le_mul_of_nonneg_right (hh k hk) (Int.le_of_lt hV)
    rw [Int.mul_assoc, Int.mul_assoc, h j hj, h k hk, ← Int.mul_assoc, ← Int.mul_assoc] at q
    exact Int.le_of_mul_le_mul_right q hU
  constructor
  · rintro ⟨h1, h2, h3, h4⟩
    exact ⟨h1, h2, h3, key hU hV h ⟨h2, h4⟩⟩
  · rintro ⟨h1, h2, h3, h4⟩
    exact ⟨h1, h2, h3, key hV hU (fun j hj => (h j hj).symm) ⟨h2, h4⟩⟩
theorem mq_sk {k : Int} {f : Nat → Int} : mq_s (fun i => k * f i) = k * mq_s f := by
  unfold mq_s; rw [Int.mul_add, Int.mul_add]
theorem mq_F_scale {nb ng : Nat} {v : Nat → Nat → Int} {m : Nat → Int} {U V : Int} {c d : Nat → Int} (hd : mq_F nb ng v m V d) (hU : 0 < U) (h : ∀ j, c j * V = d j * U) : mq_F nb ng v m U c := by
  obtain ⟨hV, d1, d2, d3, d4⟩ := hd
  have hL : mq_L nb ng v c = mq_L nb ng v d := mq_L_congr hU hV (fun j _ => h j)
  have hcd : (fun j => V * c j) = (fun j => U * d j) := by funext j; rw [Int.mul_comm, h j, Int.mul_comm]
  refine ⟨hU, fun j hj => ?_, fun j hj => ?_, fun S => ?_, ?_⟩
  · have := Int.mul_pos (d1 j hj) hU
    rw [← h j] at this
    exact Int.pos_of_mul_pos_left this hV
  · have := h j
    rw [d2 j hj, Int.zero_mul] at this
    rcases Int.mul_eq_zero.mp this with q | q
    · exact q
    · omega
  · have q := Int.mul_le_mul_of_nonneg_left (d3 S) (Int.le_of_lt hU)
    rw [← mq_ck, ← hcd, mq_ck, mq_ck, ← hL] at q
    have e : U * (V * mq_c m (mq_g (mq_L nb ng v c) S)) = V * mq_c (fun i => U * m i) (mq_g (mq_L nb ng v c) S) := by
      rw [mq_ck, ← Int.mul_assoc, Int.mul_comm U V, Int.mul_assoc]
    rw [e] at q
    exact Int.le_of_mul_le_mul_left q hV
  · have q : U * mq_s d = U * (V * mq_s m) := by rw [d4]
    rw [← mq_sk, ← hcd, mq_sk, ← Int.mul_assoc, Int.mul_comm U V, Int.mul_assoc] at q
    exact Int.eq_of_mul_eq_mul_left (by omega) q
theorem pf_hall {F : Nat → Nat → Bool} {f c : Nat → Int} {S : Nat → Bool} (hH : mq_H F f c) (hs : mq_s c = mq_s f) (hf : ∀ i, i < 3 → 0 ≤ f i) (hd : ∀ i, i < 3 → ¬ (mq_g F S i = true ∧ mq_g F (fun j => !S j) i = true)) : mq_c c S = mq_c f (mq_g F S) := by
  have h1 := hH S
  have h2 := hH (fun j => !S j)
  have h3 := mq_dj hf hd
  have h4 := @mq_co c S
  omega
theorem mq_c_miss {f : Nat → Int} {T : Nat → Bool} {i : Nat} (hi : i < 3) (hf : ∀ a, a < 3 → 0 ≤ f a) (hT : T i = false) : mq_c f T ≤ mq_s f - f i := by
  have h0 := hf 0 (by omega); have h1 := hf 1 (by omega); have h2 := hf 2 (by omega)
  unfold mq_c mq_s
  rcases (by omega : i = 0 ∨ i = 1 ∨ i = 2) with rfl | rfl | rfl <;> cases q0 : T 0 <;> cases q1 : T 1 <;> cases q2 : T 2 <;> simp only [cond_true, cond_false] <;> (first | omega | (rw [hT] at *; contradiction))
theorem mq_s_all {f : Nat → Int} {S : Nat → Bool} (h : ∀ a, a < 3 → f a = 0 ∨ S a = true) : mq_c f S = mq_s f := by
  have : mq_c f S = mq_c f (fun _ => true) := mq_c_congr h
  rw [this]; rfl
/-- the number of a way -/
def pf_W (F : Nat → Nat → Bool) : Nat := pd_set (F 0) 3 + 8 * pd_set (F 1) 3 + 64 * pd_set (F 2) 3
theorem pf_W_lt {F : Nat → Nat → Bool} : pf_W F < 512 := by
  have h0 := pd_set_lt (P := F 0) (Nat.le_refl 3); have h1 := pd_set_lt (P := F 1) (Nat.le_refl 3); have h2 := pd_set_lt (P := F 2) (Nat.le_refl 3)
  unfold pf_W; omega
theorem pd_set_0 {P : Nat → Bool} {n : Nat} (h : ∀ j, P j = false) : pd_set P n = 0 := by
  induction n with
  | zero => rfl
  | succ n ih => rw [pd_set, h n, ih]; rfl
theorem pf_W_bit {F : Nat → Nat → Bool} (h3 : ∀ i j, 3 ≤ i ∨ 3 ≤ j → F i j = false) : pr_bit (pf_W F) = F := by
  have h0 := pd_set_lt (P := F 0) (Nat.le_refl 3); have h1 := pd_set_lt (P := F 1) (Nat.le_refl 3); have h2 := pd_set_lt (P := F 2) (Nat.le_refl 3)
  funext i j
  unfold pr_bit
  have hw : ∀ i, i < 3 → pz_w (pf_W F) i = pd_set (F i) 3 := fun i hi => by
    unfold pz_w pf_W
    rcases (by omega : i = 0 ∨ i = 1 ∨ i = 2) with rfl | rfl | rfl <;> omega
  by_cases hj : j < 3
  · by_cases hi : i < 3
    · rw [hw i hi, pd_set_bit (Nat.le_refl 3) hj]; simp [hj]
    · have : pz_w (pf_W F) i = 0 := by
        unfold pz_w
        have h512 : 8 ^ 3 ≤ 8 ^ i := Nat.pow_le_pow_right (by omega) (by omega)
        have hlt := @pf_W_lt F
        rw [Nat.div_eq_of_lt (by omega)]
      rw [this, h3 i j (Or.inl (by omega))]; simp [pz_S]
  · rw [h3 i j (Or.inr (by omega))]
    unfold pz_S
    have := @pz_w_lt (pf_W F) i
    exact Nat.testBit_lt_two_pow (Nat.lt_of_lt_of_le this (show 2 ^ 3 ≤ 2 ^ j from Nat.pow_le_pow_right (by omega) (by omega)))
theorem pf_W_nb {F : Nat → Nat → Bool} {nb : Nat} (hnb : nb ≤ 3) (h : ∀ i j, nb ≤ i → F i j = false) : pf_W F < 8 ^ nb := by
  have h0 := pd_set_lt (P := F 0) (Nat.le_refl 3); have h1 := pd_set_lt (P := F 1) (Nat.le_refl 3); have h2 := pd_set_lt (P := F 2) (Nat.le_refl 3)
  unfold pf_W
  rcases (by omega : nb = 0 ∨ nb = 1 ∨ nb = 2 ∨ nb = 3) with rfl | rfl | rfl | rfl
  · rw [pd_set_0 (h 0 · (by omega)), pd_set_0 (h 1 · (by omega)), pd_set_0 (h 2 · (by omega))]; omega
  · rw [pd_set_0 (P := F 1) (h 1 · (by omega)), pd_set_0 (P := F 2) (h 2 · (by omega))]; omega
  · rw [pd_set_0 (P := F 2) (h 2 · (by omega))]; omega
  · omega
/-- a ready market: fair prices, and a way without a ring that goes with them -/
theorem pf_way {nb ng : Nat} {m : Nat → Nat} {v : Nat → Nat → Nat} (hA : pm_A nb ng m v) (hR : pm_rdy nb ng v) :
    ∃ (W : Nat) (V : Int) (c : Nat → Int), W < 512 ∧ W < 8 ^ nb ∧ mq_F nb ng (fun i j => v i j) (fun i => m i) V c ∧ (∀ i j, pr_bit W i j = true → mq_L nb ng (fun i j => v i j) c i j = true) ∧ mq_H (pr_bit W) (fun i => V * m i) c ∧ mq_4 (pr_bit W) ∧ mq_6 (pr_bit W) := by
  obtain ⟨hb, hg, hm1, hm0, hv9, hv0⟩ := hA
  obtain ⟨-, -, hr1, hr2⟩ := hR
  obtain ⟨V, c, hF⟩ := @mz_fair nb ng (fun i j => (v i j : Int)) (fun i => (m i : Int)) hb hg (fun i j => by omega) (fun i j h => by simp [hv0 i j (Or.inl h)]) (fun i j h => by simp [hv0 i j (Or.inr h)]) (fun i h => by have := (hm1 i h).1; omega) (fun i h => by simp [hm0 i h])
    (fun i hi => by obtain ⟨j, h1, h2⟩ := hr1 i hi; exact ⟨j, h1, by omega⟩) (fun j hj => by obtain ⟨i, h1, h2⟩ := hr2 j hj; exact ⟨i, h1, by omega⟩)
  have hF' := hF
  obtain ⟨hV, d1, d2, d3, d4⟩ := hF
  obtain ⟨F, F1, F2, F3, F4⟩ := @mq_forest (mq_L nb ng (fun i j => (v i j : Int)) c) (fun i => V * (m i : Int)) c (fun i _ => Int.mul_nonneg (Int.le_of_lt hV) (by omega)) d3 (by rw [d4]; exact mq_sk.symm)
  have hlt : ∀ i j, F i j = true → i < nb ∧ j < ng := fun i j h => by
    have := mq_L_iff.mp (F1 i j h); exact ⟨this.1, this.2.1⟩
  have hz : ∀ i j, nb ≤ i ∨ ng ≤ j → F i j = false := fun i j h => by
    cases q : F i j
    · rfl
    · have := hlt i j q; omega
  have e := @pf_W_bit F (fun i j h => hz i j (by omega))
  refine ⟨pf_W F, V, c, pf_W_lt, pf_W_nb hb (fun i j h => hz i j (Or.inl h)), hF', ?_, ?_, ?_, ?_⟩ <;> rw [e]
  · exact F1
  · exact F2
  · exact F3
  · exact F4
/-- everyone buys something in such a way -/
theorem pf_row {nb : Nat} {F : Nat → Nat → Bool} {m : Nat → Nat} {V : Int} {c : Nat → Int} (hV : 0 < V) (hH : mq_H F (fun i => V * (m i : Int)) c) (hs : mq_s c = V * mq_s (fun i => (m i : Int))) {i : Nat} (hi : i < 3) (hm : 0 < m i) : ∃ j, j < 3 ∧ F i j = true := by
  cases q : mq_g F (fun _ => true) i
  · have h1 := hH (fun _ => true)
    have h2 := @mq_c_miss (fun i => V * (m i : Int)) (mq_g F (fun _ => true)) i hi (fun a _ => Int.mul_nonneg (Int.le_of_lt hV) (by omega)) q
    have h3 : mq_c c (fun _ => true) = mq_s c := rfl
    rw [mq_sk] at h2
    have h4 : 0 < V * (m i : Int) := Int.mul_pos hV (by omega)
    omega
  · obtain ⟨j, h1, -, h2⟩ := mq_g_ex q
    exact ⟨j, h1, h2⟩
theorem pf_best {nb ng : Nat} {v : Nat → Nat → Nat} {c : Nat → Int} {i : Nat} (hi : i < nb) (hc : ∀ j, j < ng → 0 < c j) (hx : ∃ j, j < ng ∧ 0 < v i j) : ∃ j, j < ng ∧ mq_L nb ng (fun i j => (v i j : Int)) c i j = true := by
  obtain ⟨j0, hj0, hp0⟩ := hx
  have hb := @pd_top_best (fun j => (v i j : Int)) c ng hc
  have ht : pd_top (fun j => (v i j : Int)) c ng < ng := by
    have := @pd_top_lt (fun j => (v i j : Int)) c (ng - 1)
    rw [show ng - 1 + 1 = ng by omega] at this; omega
  generalize pd_top (fun j => (v i j : Int)) c ng = t at *
  refine ⟨t, ht, mq_L_iff.mpr ⟨hi, ht, ?_, hb⟩⟩
  have h1 := hb j0 hj0
  have h2 := Int.mul_pos (show (0 : Int) < v i j0 by omega) (hc t ht)
  have h3 := hc j0 hj0
  show (0 : Int) < (v i t : Int)
  rcases Int.lt_or_le 0 (v i t : Int) with h | h
  · exact h
  · have : ((v i t : Nat) : Int) * c j0 ≤ 0 := Int.mul_nonpos_of_nonpos_of_nonneg h (Int.le_of_lt h3)
    omega
theorem pf_H {nb ng : Nat} {L : Nat → Nat → Bool} {f p : Nat → Int} (hg : ng ≤ 3) (hp0 : ∀ j, ng ≤ j → p j = 0) (hL : ∀ i j, ng ≤ j → L i j = false) (hf : ∀ i, i < 3 → 0 ≤ f i) : (∀ s, 1 ≤ s → s < 2 ^ ng → mq_c p (pz_S s) ≤ mq_c f (mq_g L (pz_S s))) ↔ mq_H L f p := by
  constructor
  · intro h S
    have hbit : ∀ b, b < 3 → pz_S (pd_set S ng) b = (decide (b < ng) && S b) := fun b hb => pd_set_bit hg hb
    have e1 : mq_c p (pz_S (pd_set S ng)) = mq_c p S := mq_c_congr (fun b hb => by
      by_cases h : b < ng
      · exact Or.inr (by rw [hbit b hb]; simp [h])
      · exact Or.inl (hp0 b (by omega)))
    have e2 : ∀ a, mq_g L (pz_S (pd_set S ng)) a = mq_g L S a := fun a => mq_g_congr (fun b hb => by
      by_cases h : b < ng
      · exact Or.inr (by rw [hbit b hb]; simp [h])
      · exact Or.inl (hL a b (by omega)))
    rw [← e1, ← mq_c_eq e2]
    rcases Nat.eq_zero_or_pos (pd_set S ng) with q | q
    · rw [q]
      have : ∀ a, pz_S 0 a = false := fun a => by simp [pz_S]
      rw [mq_c_eq (T := fun _ => false) this]
      have h0 : mq_c p (fun _ => false) = 0 := rfl
      rw [h0]
      have := @pz_c_b f (mq_g L (pz_S 0)) (f 0 + f 1 + f 2) (fun a ha => by
        have h0 := hf 0 (by omega); have h1 := hf 1 (by omega); have h2 := hf 2 (by omega)
        rcases (by omega : a = 0 ∨ a = 1 ∨ a = 2) with rfl | rfl | rfl <;> omega)
      omega
    · exact h _ q (pd_set_lt hg)
  · intro h s _ _; exact h _
theorem pf_fst {ng : Nat} {L : Nat → Nat → Bool} {f p : Nat → Int} (hg : ng ≤ 3) (hp0 : ∀ j, ng ≤ j → p j = 0) (hL : ∀ i j, ng ≤ j → L i j = false) (hf : ∀ i, i < 3 → 0 ≤ f i) : (pz_fst (fun s => decide (mq_c f (mq_g L (pz_S s)) < mq_c p (pz_S s))) (2 ^ ng - 1) 1).elim 0 nI = (0 : Int32) ↔ mq_H L f p := by
  have hp20 : 0 < 2 ^ ng := Nat.pow_pos (by omega)
  have hp2 := pz_p2 ng hg
  rw [← @pf_H 0 ng L f p hg hp0 hL hf]
  cases q : pz_fst (fun s => decide (mq_c f (mq_g L (pz_S s)) < mq_c p (pz_S s))) (2 ^ ng - 1) 1 with
  | none =>
    simp only [Option.elim_none, true_iff]
    intro s h1 h2
    have := pz_fst_none.mp q s h1 (by omega)
    simp only [decide_eq_false_iff_not] at this
    omega
  | some n =>
    obtain ⟨h1, h2, h3⟩ := pz_fst_some q
    simp only [Option.elim_some]
    constructor
    · intro h; exact absurd h (nI_ne0 (by omega) (by omega))
    · intro h
      have := h n h2 (by omega)
      simp only [decide_eq_true_iff] at h1
      omega
theorem pf_J {nb ng : Nat} {m : Nat → Nat} {v : Nat → Nat → Nat} {U : Int} {p : Nat → Int} (hA : pm_A nb ng m v) (hR : pm_rdy nb ng v) (hU : 0 < U) (hp : ∀ j, j < ng → 0 < p j) (hp0 : ∀ j, ng ≤ j → p j = 0) :
    pr_J ng (mq_L nb ng (fun i j => v i j) p) (fun i => U * m i) p = 0 ↔ mq_F nb ng (fun i j => v i j) (fun i => m i) U p := by
  obtain ⟨hb, hg, hm1, hm0, hv9, hv0⟩ := hA
  obtain ⟨-, hg0, hr1, hr2⟩ := hR
  have hL0 : ∀ i j, ng ≤ j → mq_L nb ng (fun i j => (v i j : Int)) p i j = false := fun i j h => by
    cases q : mq_L nb ng (fun i j => (v i j : Int)) p i j
    · rfl
    · have := (mq_L_iff.mp q).2.1; omega
  have hall : ∀ j, j < ng → pz_S (2 ^ ng - 1) j = true := by
    have : ∀ g, g ≤ 3 → ∀ j, j < g → pz_S (2 ^ g - 1) j = true := by decide
    exact this ng hg
  have e1 : mq_c p (pz_S (2 ^ ng - 1)) = mq_s p := mq_s_all (fun a ha => by
    by_cases h : a < ng
    · exact Or.inr (hall a h)
    · exact Or.inl (hp0 a (by omega)))
  have e2 : mq_c (fun i => U * (m i : Int)) (mq_g (mq_L nb ng (fun i j => (v i j : Int)) p) (pz_S (2 ^ ng - 1))) = U * mq_s (fun i => (m i : Int)) := by
    rw [← mq_sk]
    refine mq_s_all (fun a ha => ?_)
    by_cases h : a < nb
    · obtain ⟨j, j1, j2⟩ := pf_best h hp (hr1 a h)
      exact Or.inr (mq_g_in (show j < 3 by omega) (hall j j1) j2)
    · left; rw [hm0 a (by omega)]; simp
  have hf : ∀ i, i < 3 → 0 ≤ (fun i => U * (m i : Int)) i := fun i _ => Int.mul_nonneg (Int.le_of_lt hU) (by omega)
  unfold pr_J
  rw [e1, e2]
  by_cases h : mq_s p = U * mq_s (fun i => (m i : Int))
  · rw [if_pos h, pf_fst hg hp0 hL0 hf]
    constructor
    · intro q; exact ⟨hU, hp, hp0, q, h⟩
    · intro q; exact q.2.2.2.1
  · rw [if_neg h]
    constructor
    · intro q; cases q
    · intro q; exact absurd q.2.2.2.2 h
/-! Pure part 22: the reference's find. -/
theorem pr_M_z {nb ng W g : Nat} {m : Nat → Nat} {v : Nat → Nat → Nat} {grp : Nat → Nat} (hA : pm_A nb ng m v) : ((pr_M nb ng m W grp g : Nat) : Int) = mq_c (fun i => (m i : Int)) (mq_g (pr_bit W) (pr_gs ng grp g)) := by
  unfold pr_M
  rw [pn_s_z, ← @pz_scG (fun i => (m i : Int)) (mq_g (pr_bit W) (pr_gs ng grp g)) nb hA.1 (fun j hj => by simp [hA.2.2.2.1 j hj])]
  congr 1
  funext i
  cases mq_g (pr_bit W) (pr_gs ng grp g) i <;> simp
theorem pr_P_z {ng g : Nat} {part grp : Nat → Nat} (hg : ng ≤ 3) : ((pr_P ng part grp g : Nat) : Int) = mq_c (fun i => (part i : Int)) (pr_gs ng grp g) := by
  unfold pr_P
  rw [pn_s_z]
  have e : ∀ n, n ≤ ng → pz_s (fun j => (((if grp j = g then part j else 0 : Nat)) : Int)) n = pz_s (fun j => bif pr_gs ng grp g j then (part j : Int) else 0) n := fun n => by
    induction n with
    | zero => intro _; rfl
    | succ n ih =>
      intro hn
      rw [pz_s, pz_s, ih (by omega)]
      congr 1
      unfold pr_gs
      by_cases h : grp n = g
      · simp [h, show n < ng by omega]
      · simp [h]
  rw [e ng (Nat.le_refl _)]
  exact pz_s3 hg (fun j h1 _ => by unfold pr_gs; simp [show ¬ j < ng by omega])
theorem pr_share {nb ng W : Nat} {m : Nat → Nat} {v : Nat → Nat → Nat} {V : Int} {c : Nat → Int} {vpt : Nat → Int64} {vgr : Nat → Int32} {part grp : Nat → Nat} (hA : pm_A nb ng m v) (hF : mq_F nb ng (fun i j => v i j) (fun i => m i) V c) (hL : ∀ i j, pr_bit W i j = true → mq_L nb ng (fun i j => v i j) c i j = true) (hH : mq_H (pr_bit W) (fun i => V * m i) c)
    (hS : pr_St nb ng v W nb vpt vgr part grp) (hc : ∀ x y, x < ng → y < ng → grp x = grp y → (part x : Int) * c y = part y * c x) {j : Nat} (hj : j < ng) : (part j : Int) * (V * (pr_M nb ng m W grp (grp j) : Nat)) = c j * (pr_P ng part grp (grp j) : Nat) := by
  obtain ⟨hV, d1, d2, d3, d4⟩ := hF
  have hg := hA.2.1
  have hall := @pf_hall (pr_bit W) (fun i => V * (m i : Int)) c (pr_gs ng grp (grp j)) hH (by rw [d4]; exact mq_sk.symm) (fun i _ => Int.mul_nonneg (Int.le_of_lt hV) (by omega)) (fun i hi => by
    rintro ⟨h1, h2⟩
    obtain ⟨x, x1, x2, x3⟩ := mq_g_ex h1
    obtain ⟨y, y1, y2, y3⟩ := mq_g_ex h2
    have l1 := mq_L_iff.mp (hL i x x3)
    have l2 := mq_L_iff.mp (hL i y y3)
    obtain ⟨f, f1, f2, f3, f4, f5⟩ := hS.2.2.2.1 i l1.1
    have q1 := (f4 x l1.2.1 x3).2
    have q2 := (f4 y l2.2.1 y3).2
    unfold pr_gs at x2 y2
    rw [decide_eq_true_iff] at x2
    simp only [Bool.not_eq_true', decide_eq_false_iff_not] at y2
    exact y2 ⟨l2.2.1, by rw [q2, ← q1]; exact x2.2⟩)
  rw [pr_M_z hA, ← mq_ck, ← hall, pr_P_z hg, ← mq_ck, ← mq_ck]
  unfold mq_c
  have e : ∀ x, (bif pr_gs ng grp (grp j) x then (part j : Int) * c x else 0) = (bif pr_gs ng grp (grp j) x then c j * (part x : Int) else 0) := fun x => by
    cases q : pr_gs ng grp (grp j) x
    · rfl
    · unfold pr_gs at q
      rw [decide_eq_true_iff] at q
      have := hc j x hj q.1 q.2.symm
      simp only [cond_true]; rw [this, Int.mul_comm]
  rw [e 0, e 1, e 2]
def pr_Gd (nb ng : Nat) (m : Nat → Nat) (v : Nat → Nat → Nat) (ln : Int64) (pr : Nat → Int64) (li : Nat → Int32) : Prop :=
  ∃ (U : Int) (p : Nat → Int), ln = pz U ∧ (∀ j, j < ng → pr j = pz (p j)) ∧ mq_F nb ng (fun i j => v i j) (fun i => m i) U p ∧ U ≤ 14348907 ∧ (∀ j, p j ≤ 69735688020) ∧ ∀ i j, i < nb → j < ng → li (3 * i + j) = pz_B (mq_L nb ng (fun i j => v i j) p i j)
theorem pr_sh8 : ∀ n, n ≤ 3 → (1 : Int32) <<< ((3 * nI n) &&& 31) = nI (8 ^ n) := by decide +kernel
theorem pr_p8 : ∀ n, n ≤ 3 → 8 ^ n ≤ 512 := by decide
theorem pr_findLoop {rth rps : Int32} {rln : Int64} {vno vpa : Nat → Int32} {vpr vsp : Nat → Int64} {vli vop : Nat → Int32} {vpu vre vpt : Nat → Int64} {vgr vab vbe : Nat → Int32} {nb ng : Nat} {m : Nat → Nat} {v : Nat → Nat → Nat} (hA : pm_A nb ng m v) (hr : pm_R nb ng m v vno) (hR : pm_rdy nb ng v) :
    ∃ x, gq_it 1000000 (fb_R_find_4 rth rps vno vpa vsp vop vpu vre vab vbe) (0, 0, rln, vpr, vli, vpt, vgr) = some x ∧ pr_Gd nb ng m v x.1 x.2.1 x.2.2.1 := by
  obtain ⟨W, V, c, hW, hWn, hF, hL, hH, -, -⟩ := pf_way hA hR
  have hb := hA.1
  have hg := hA.2.1
  have h8 := pr_p8 nb hb
  obtain ⟨r0, r1, r3, r6⟩ := hr
  have hr' : pm_R nb ng m v vno := ⟨r0, r1, r3, r6⟩
  have hWF : pr_F nb ng v W (fun x => if x < ng then (c x).toNat else 1) := by
    obtain ⟨hV, d1, d2, d3, d4⟩ := hF
    refine ⟨fun x hx => ?_, fun i hi => ⟨?_, fun j hj hbit => ?_, fun j k hj hk b1 b2 => ?_⟩⟩
    · simp only
      split
      · rename_i q; have := d1 x q; omega
      · omega
    · obtain ⟨j, j1, j2⟩ := @pf_row nb (pr_bit W) m V c hV hH d4 i (by omega) (by have := (hA.2.2.1 i hi).1; omega)
      exact ⟨j, (mq_L_iff.mp (hL i j j2)).2.1, j2⟩
    · have := mq_L_iff.mp (hL i j hbit)
      exact ⟨this.2.1, by have := this.2.2.1; omega⟩
    · have l1 := (mq_L_iff.mp (hL i j b1)).2.2.2 k hk
      have l2 := (mq_L_iff.mp (hL i k b2)).2.2.2 j hj
      simp only [if_pos hj, if_pos hk]
      have e1 : (((c k).toNat : Nat) : Int) = c k := Int.toNat_of_nonneg (Int.le_of_lt (d1 k hk))
      have e2 : (((c j).toNat : Nat) : Int) = c j := Int.toNat_of_nonneg (Int.le_of_lt (d1 j hj))
      have : ((v i j * (c k).toNat : Nat) : Int) = ((v i k * (c j).toNat : Nat) : Int) := by
        rw [Int.natCast_mul, Int.natCast_mul, e1, e2]; exact Int.le_antisymm l2 l1
      omega
  refine pz_invF (fun k z => z.1 = nI k ∧ ((z.2.1 = 0 ∧ k ≤ W) ∨ (z.2.1 = 1 ∧ pr_Gd nb ng m v z.2.2.1 z.2.2.2.1 z.2.2.2.2.1))) 0 (8 ^ nb) (by omega) (by omega) ⟨rfl, Or.inl ⟨rfl, by omega⟩⟩ (fun k z hk hz => ?_) (fun z hz => ?_)
  · obtain ⟨z1, hz⟩ := hz
    have k512 : k < 512 := by omega
    simp only [fb_R_find_4, z1, pr_buyers r0, Option.bind_some, pr_sh8 nb hb, if_neg (nI_ge hk (by omega))]
    rcases hz with ⟨z2, z3⟩ | ⟨z2, z3⟩
    · rw [if_pos z2]
      obtain ⟨fl, vpt', vgr', p1, p2, p3⟩ := @pr_proportion rth rps z.2.2.1 vno vpa z.2.2.2.1 vsp z.2.2.2.2.1 vop vpu vre z.2.2.2.2.2.1 z.2.2.2.2.2.2 vab vbe nb ng k m v hA hr' k512
      simp only [p1, Option.bind_some]
      cases fl
      · rw [if_pos (show pz_B false = 0 from rfl)]
        refine Or.inl ⟨_, rfl, nI_1 k, Or.inl ⟨rfl, ?_⟩⟩
        rcases Nat.lt_or_ge k W with q | q
        · omega
        · have e : k = W := by omega
          subst e
          have := p3 _ hWF; cases this
      · rw [if_neg (show ¬ pz_B true = 0 by decide)]
        obtain ⟨part, grp, hS⟩ := p2 rfl
        obtain ⟨U, fl2, vpr', q1, q2, q3, q4, q5, q6⟩ := @pr_priceBy rth rps z.2.2.1 vno vpa z.2.2.2.1 vsp z.2.2.2.2.1 vop vpu vre vpt' vgr' vab vbe nb ng k m v part grp hA hr' k512 hS
        simp only [q1, Option.bind_some]
        have hcomp : k = W → ∀ j, j < ng → ((U / pr_P ng part grp (grp j) * part j * pr_M nb ng m k grp (grp j) : Nat) : Int) * V = c j * U := fun e j hj => by
          subst e
          have hgc := hS.2.2.2.2 _ hWF
          have hsh := @pr_share nb ng k m v V c vpt' vgr' part grp hA hF hL hH hS (fun x y hx hy hxy => by
            have := hgc x y (by omega) (by omega) hxy
            simp only [if_pos hx, if_pos hy] at this
            have e1 : (((c x).toNat : Nat) : Int) = c x := Int.toNat_of_nonneg (Int.le_of_lt (hF.2.1 x hx))
            have e2 : (((c y).toNat : Nat) : Int) = c y := Int.toNat_of_nonneg (Int.le_of_lt (hF.2.1 y hy))
            rw [← e1, ← e2, ← Int.natCast_mul, ← Int.natCast_mul, this]) j hj
          obtain ⟨t, ht⟩ := q4 j hj
          obtain ⟨P1, P2⟩ := @pr_P_b ng part grp j hg hS.2.2.1 hj
          generalize pr_P ng part grp (grp j) = P at *
          generalize pr_M nb ng m k grp (grp j) = M at *
          rw [show U / P = t by rw [Nat.div_eq_of_eq_mul_right (by omega) ht]]
          rw [ht]
          simp only [Int.natCast_mul]
          calc (t : Int) * (part j : Int) * (M : Int) * V = t * ((part j : Int) * (V * M)) := by rw [Int.mul_comm V]; simp only [Int.mul_assoc]
            _ = t * (c j * P) := by rw [hsh]
            _ = c j * (P * t) := by rw [Int.mul_comm (P : Int), ← Int.mul_assoc, Int.mul_comm (t : Int), Int.mul_assoc]
        generalize hpp : (fun j => U / pr_P ng part grp (grp j) * part j * pr_M nb ng m k grp (grp j)) = p at *
        have hpj : ∀ j, U / pr_P ng part grp (grp j) * part j * pr_M nb ng m k grp (grp j) = p j := fun j => by rw [← hpp]
        have hpb : ∀ j, j < ng → p j ≤ 69735688020 := fun j hj => by
          rw [← hpj]
          exact Nat.mul_le_mul (Nat.mul_le_mul (Nat.le_trans (Nat.div_le_self _ _) q3) (pr_G81 hS.2.2.1 (show j < 3 by omega))) (pr_M_b hA)
        simp only [hpj] at q5 q6 hcomp
        have hFp : k = W → mq_F nb ng (fun i j => (v i j : Int)) (fun i => (m i : Int)) U (fun j => if j < ng then (p j : Int) else 0) := fun e => by
          refine mq_F_scale hF (by omega) (fun j => ?_)
          by_cases hj : j < ng
          · simp only [if_pos hj]; exact hcomp e j hj
          · simp only [if_neg hj, hF.2.2.1 j (by omega), Int.zero_mul]
        cases fl2
        · rw [if_pos (show pz_B false = 0 from rfl)]
          refine Or.inl ⟨_, rfl, nI_1 k, Or.inl ⟨rfl, ?_⟩⟩
          rcases Nat.lt_or_ge k W with q | q
          · omega
          · exfalso
            have e : k = W := by omega
            have : false = true := q6.mpr (fun j hj => by
              have := (hFp e).2.1 j hj
              simp only [if_pos hj] at this; omega)
            cases this
        · rw [if_neg (show ¬ pz_B true = 0 by decide)]
          have hp0 := q6.mp rfl
          obtain ⟨r, j1, j2⟩ := @pr_judge rth rps (pz U) vno vpa vpr' vsp z.2.2.2.2.1 vop vpu vre vpt' vgr' vab vbe nb ng m v U (fun j => if j < ng then (p j : Int) else 0) hA hr' rfl (fun j hj => by rw [q5 j hj]; simp only [if_pos hj]) (fun j hj => by simp only [if_neg (show ¬ j < ng by omega)]) (fun j => by
            by_cases hj : j < ng
            · simp only [if_pos hj]; have := hpb j hj; omega
            · simp only [if_neg hj]; omega) (by omega)
          simp only [j1, Option.bind_some]
          have hJ := @pf_J nb ng m v U (fun j => if j < ng then (p j : Int) else 0) hA hR (by omega) (fun j hj => by simp only [if_pos hj]; have := hp0 j hj; omega) (fun j hj => by simp only [if_neg (show ¬ j < ng by omega)])
          by_cases hj0 : pr_J ng (mq_L nb ng (fun i j => (v i j : Int)) (fun j => if j < ng then (p j : Int) else 0)) (fun i => (U : Int) * m i) (fun j => if j < ng then (p j : Int) else 0) = 0
          · rw [if_pos hj0]
            refine Or.inl ⟨_, rfl, nI_1 k, Or.inr ⟨rfl, U, (fun j => if j < ng then (p j : Int) else 0), rfl, fun j hj => ?_, hJ.mp hj0, by omega, fun j => ?_, j2⟩⟩
            · show vpr' j = _
              rw [q5 j hj]; simp only [if_pos hj]
            · by_cases hj : j < ng
              · simp only [if_pos hj]; have := hpb j hj; omega
              · simp only [if_neg hj]; omega
          · rw [if_neg hj0]
            refine Or.inl ⟨_, rfl, nI_1 k, Or.inl ⟨rfl, ?_⟩⟩
            rcases Nat.lt_or_ge k W with q | q
            · omega
            · exfalso
              exact hj0 (hJ.mpr (hFp (by omega)))
    · rw [if_neg (by rw [z2]; decide)]
      exact Or.inr ⟨_, rfl, z3⟩
  · obtain ⟨z1, hz⟩ := hz
    simp only [fb_R_find_4, z1, pr_buyers r0, Option.bind_some, pr_sh8 nb hb, if_pos (nI_le (Nat.le_refl (8 ^ nb)) (by omega))]
    rcases hz with ⟨z2, z3⟩ | ⟨z2, z3⟩
    · omega
    · exact ⟨_, rfl, z3⟩
/-! Pure part 23: the reference's find with its division. -/
def pv_X (nb ng : Nat) (m : Nat → Nat) (v : Nat → Nat → Nat) (U : Int) (p : Nat → Int) : Nat → Int := (pv_s ng (mq_L nb ng (fun i j => v i j) p) (fun i => U * m i) p 9).2.2.2
theorem mq_L_0b {nb ng : Nat} {v : Nat → Nat → Int} {c : Nat → Int} : ∀ i j, nb ≤ i → mq_L nb ng v c i j = false := fun i j h => by
  cases q : mq_L nb ng v c i j
  · rfl
  · have := (mq_L_iff.mp q).1; omega
theorem mq_L_0g {nb ng : Nat} {v : Nat → Nat → Int} {c : Nat → Int} : ∀ i j, ng ≤ j → mq_L nb ng v c i j = false := fun i j h => by
  cases q : mq_L nb ng v c i j
  · rfl
  · have := (mq_L_iff.mp q).2.1; omega
theorem pf_I0 {nb ng : Nat} {m : Nat → Nat} {v : Nat → Nat → Nat} {U : Int} {p : Nat → Int} (hA : pm_A nb ng m v) (hF : mq_F nb ng (fun i j => v i j) (fun i => m i) U p) (hU : U ≤ 14348907) (hp : ∀ j, p j ≤ 69735688020) : pv_I nb ng (mq_L nb ng (fun i j => v i j) p) 1000000000000000 (mq_L nb ng (fun i j => v i j) p, (fun i => U * m i), p, fun _ => 0) := by
  obtain ⟨hb, hg, hm1, hm0, hv9, hv0⟩ := hA
  obtain ⟨hU0, d1, d2, d3, d4⟩ := hF
  refine ⟨d3, fun a _ => ?_, fun a _ => ?_, fun a b h => h, fun a ha => ?_, d2, fun a => ⟨Int.le_refl 0, by show (0 : Int) ≤ _; omega⟩⟩
  · have hm : (m a : Int) ≤ 20 := by
      by_cases h : a < nb
      · have := (hm1 a h).2; omega
      · rw [hm0 a (by omega)]; omega
    have h1 : U * (m a : Int) ≤ 14348907 * 20 := Int.mul_le_mul hU hm (by omega) (by omega)
    have h2 : 0 ≤ U * (m a : Int) := Int.mul_nonneg (by omega) (by omega)
    show 0 ≤ U * (m a : Int) ∧ U * (m a : Int) ≤ 1000000000000000
    omega
  · have h1 := hp a
    have h2 : 0 ≤ p a := by
      by_cases h : a < ng
      · have := d1 a h; omega
      · rw [d2 a (by omega)]; omega
    show 0 ≤ p a ∧ p a ≤ 1000000000000000
    omega
  · show U * (m a : Int) = 0
    rw [hm0 a ha]; simp
/-- what find leaves: fair prices, who likes what, the division -/
theorem pr_find {rth rps : Int32} {rln : Int64} {vno vpa : Nat → Int32} {vpr vsp : Nat → Int64} {vli vop : Nat → Int32} {vpu vre vpt : Nat → Int64} {vgr vab vbe : Nat → Int32} {nb ng : Nat} {m : Nat → Nat} {v : Nat → Nat → Nat} (hA : pm_A nb ng m v) (hr : pm_R nb ng m v vno) (hR : pm_rdy nb ng v) :
    ∃ r, f_R_find rth rps rln vno vpa vpr vsp vli vop vpu vre vpt vgr vab vbe = some r ∧ ∃ (U : Int) (p : Nat → Int), r.1 = pz U ∧ (∀ j, j < ng → r.2.1 j = pz (p j)) ∧ mq_F nb ng (fun i j => v i j) (fun i => m i) U p ∧ U ≤ 14348907 ∧ (∀ j, p j ≤ 69735688020) ∧ (∀ i j, i < nb → j < ng → r.2.2.2.1 (3 * i + j) = pz_B (mq_L nb ng (fun i j => v i j) p i j)) ∧ (∀ i j, i < nb → j < ng → r.2.2.1 (3 * i + j) = pz (pv_X nb ng m v U p (3 * i + j))) := by
  obtain ⟨x, x1, U, p, x2, x3, x4, x5, x6, x7⟩ := @pr_findLoop rth rps rln vno vpa vpr vsp vli vop vpu vre vpt vgr vab vbe nb ng m v hA hr hR
  obtain ⟨d, d1, d2⟩ := @pr_divide rth rps x.1 vno vpa x.2.1 vsp x.2.2.1 vop vpu vre x.2.2.2.1 x.2.2.2.2 vab vbe nb ng m v U p (mq_L nb ng (fun i j => v i j) p) hA hr x2 x3 x7 mq_L_0b mq_L_0g (pf_I0 hA x4 x5 x6)
  unfold f_R_find
  rw [x1, Option.bind_some, d1, Option.bind_some]
  exact ⟨_, rfl, U, p, x2, x3, x4, x5, x6, x7, d2⟩
/-- two pairs of fair prices: the same likings, shares in proportion -/
theorem pv_X_one {nb ng : Nat} {m : Nat → Nat} {v : Nat → Nat → Nat} {U V : Int} {p c : Nat → Int} (hU : 0 < U) (hV : 0 < V) (h : ∀ j, p j * V = c j * U) (k : Nat) : pv_X nb ng m v U p k * V = pv_X nb ng m v V c k * U := by
  have hL : mq_L nb ng (fun i j => (v i j : Int)) p = mq_L nb ng (fun i j => (v i j : Int)) c := mq_L_congr hU hV (fun j _ => h j)
  have e1 := @pv_s_mul V (Int.le_of_lt hV) ng (mq_L nb ng (fun i j => (v i j : Int)) c) (fun i => U * (m i : Int)) p 9
  have e2 := @pv_s_mul U (Int.le_of_lt hU) ng (mq_L nb ng (fun i j => (v i j : Int)) c) (fun i => V * (m i : Int)) c 9
  have hc : (fun a => V * p a) = (fun a => U * c a) := by funext a; rw [Int.mul_comm, h a, Int.mul_comm]
  have hf : (fun a => V * (U * (m a : Int))) = (fun a => U * (V * (m a : Int))) := by funext a; rw [← Int.mul_assoc, Int.mul_comm V U, Int.mul_assoc]
  have hf' : (fun a => V * (fun i => U * (m i : Int)) a) = (fun a => U * (fun i => V * (m i : Int)) a) := hf
  rw [hf', hc, e2] at e1
  have e3 := congrFun (congrArg (fun z => z.2.2.2) e1) k
  simp only at e3
  unfold pv_X
  rw [hL, Int.mul_comm, Int.mul_comm _ U]
  exact e3.symm
