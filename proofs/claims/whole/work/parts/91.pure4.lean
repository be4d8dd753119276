/-! Pure part 24: Search: ways, what is wanted, covers. -/
def sg_f (s : Nat) : Nat := if pz_S s 0 = true then 0 else if pz_S s 1 = true then 1 else 2
theorem pd_firstOf : ∀ s, s < 8 → f_K_firstOf (nI s) = some (nI (sg_f s)) := by decide +kernel
theorem sg_f_in : ∀ s, s < 8 → s ≠ 0 → pz_S s (sg_f s) = true ∧ ∀ j, j < sg_f s → pz_S s j = false := by decide +kernel
theorem sg_f_lt {s : Nat} : sg_f s < 3 := by unfold sg_f; split <;> (try split) <;> omega
theorem ps_boughtBy {w i : Nat} (hw : w < 512) (hi : i < 3) : f_S_boughtBy (nI i) (nI w) = some (nI (pz_w w i)) := by
  unfold f_S_boughtBy; rw [pz_wI w hw i hi]
theorem ps_wantedBy {nb ng i : Nat} {mbu mso : Int32} {mun : Int64} {mpu mwo : Nat → Int32} {v : Nat → Nat → Nat} (hb : nb ≤ 3) (hg : ng ≤ 3) (hv : ∀ i j, i < nb → j < ng → mwo (3 * i + j) = nI (v i j)) (hv9 : ∀ i j, v i j ≤ 9) (hi : i < nb) :
    f_M_wantedBy mbu (nI ng) mpu mwo mso mun (nI i) = some (nI (pd_set (fun j => decide (0 < v i j)) ng)) := by
  have e : gq_it 1000000 (fb_M_wantedBy_4 (nI ng) mwo (nI i)) (0, 0) = some (nI (pd_set (fun j => decide (0 < v i j)) ng)) := by
    refine pz_for (fun k => (nI k, nI (pd_set (fun j => decide (0 < v i j)) k))) 0 ng (by omega) (by omega) (fun k _ hk => ?_) ?_
    · have h9 := hv9 i k
      have h8 : pd_set (fun j => decide (0 < v i j)) k < 8 := Nat.lt_of_lt_of_le (pd_set_lt (by omega)) (pz_p2 k (by omega))
      simp only [fb_M_wantedBy_4, if_neg (pz_ge hk hg), pd_cell, Option.bind_some, pz_g (show 3 * i + k < 9 by omega), pz_c (n := 3 * i + k) (by omega), hv i k hi hk, nI_1, pd_set, pd_or _ h8 k (by omega)]
      by_cases h : v i k = 0
      · rw [if_pos (by rw [h]; decide)]; simp [h]
      · rw [if_neg (nI_nle (by omega) (by omega))]; simp [show 0 < v i k by omega]
    · simp only [fb_M_wantedBy_4, if_pos (pz_le' (Nat.le_refl ng) hg)]
  unfold f_M_wantedBy
  rw [e]; rfl
theorem ps_or3 : ∀ k, k < 3 → ∀ a, a < 8 ^ k → ∀ s, s < 8 → nI a ||| (nI s <<< ((3 * nI k) &&& 31)) = nI (a + 8 ^ k * s) := by decide +kernel
def ps_A (ng : Nat) (v : Nat → Nat → Nat) : Nat → Nat
  | 0 => 0
  | k + 1 => ps_A ng v k + 8 ^ k * pd_set (fun j => decide (0 < v k j)) ng
theorem ps_A_lt {ng : Nat} {v : Nat → Nat → Nat} (hg : ng ≤ 3) : ∀ {k : Nat}, ps_A ng v k < 8 ^ k
  | 0 => by simp [ps_A]
  | k + 1 => by
    have h1 := @ps_A_lt ng v hg k
    have h2 : pd_set (fun j => decide (0 < v k j)) ng < 8 := Nat.lt_of_lt_of_le (pd_set_lt hg) (pz_p2 ng hg)
    rw [ps_A, Nat.pow_succ]
    have : 8 ^ k * pd_set (fun j => decide (0 < v k j)) ng ≤ 8 ^ k * 7 := Nat.mul_le_mul_left _ (by omega)
    omega
theorem ps_wantedByAll {nb ng : Nat} {mso : Int32} {mun : Int64} {mpu mwo : Nat → Int32} {v : Nat → Nat → Nat} (hb : nb ≤ 3) (hg : ng ≤ 3) (hv : ∀ i j, i < nb → j < ng → mwo (3 * i + j) = nI (v i j)) (hv9 : ∀ i j, v i j ≤ 9) :
    f_S_wantedByAll (nI nb) (nI ng) mpu mwo mso mun = some (nI (ps_A ng v nb)) := by
  have e : gq_it 1000000 (fb_S_wantedByAll_4 (nI nb) (nI ng) mpu mwo mso mun) (0, 0) = some (nI (ps_A ng v nb)) := by
    refine pz_for (fun k => (nI k, nI (ps_A ng v k))) 0 nb (by omega) (by omega) (fun k _ hk => ?_) ?_
    · simp only [fb_S_wantedByAll_4, if_neg (pz_ge hk hb), ps_wantedBy hb hg hv hv9 hk, Option.bind_some, nI_1]
      rw [ps_or3 k (by omega) _ (ps_A_lt hg) _ (Nat.lt_of_lt_of_le (pd_set_lt hg) (pz_p2 ng hg))]; rfl
    · simp only [fb_S_wantedByAll_4, if_pos (pz_le' (Nat.le_refl nb) hb)]
  unfold f_S_wantedByAll
  rw [e]; rfl
theorem ps_A_bit {nb ng : Nat} {v : Nat → Nat → Nat} (hb : nb ≤ 3) (hg : ng ≤ 3) (hv0 : ∀ i j, nb ≤ i ∨ ng ≤ j → v i j = 0) {i j : Nat} (hi : i < 3) (hj : j < 3) : pr_bit (ps_A ng v nb) i j = decide (0 < v i j) := by
  have h8 : ∀ k, pd_set (fun j => decide (0 < v k j)) ng < 8 := fun k => Nat.lt_of_lt_of_le (pd_set_lt hg) (pz_p2 ng hg)
  have h0 : ∀ k, nb ≤ k → pd_set (fun j => decide (0 < v k j)) ng = 0 := fun k hk => pd_set_0 (fun j => by simp [hv0 k j (Or.inl hk)])
  have hw : pz_w (ps_A ng v nb) i = pd_set (fun j => decide (0 < v i j)) ng := by
    have q0 := h8 0; have q1 := h8 1; have q2 := h8 2
    have z0 := h0 0; have z1 := h0 1; have z2 := h0 2
    unfold pz_w
    rcases (by omega : nb = 0 ∨ nb = 1 ∨ nb = 2 ∨ nb = 3) with rfl | rfl | rfl | rfl <;> rcases (by omega : i = 0 ∨ i = 1 ∨ i = 2) with rfl | rfl | rfl <;> simp only [ps_A] <;> omega
  unfold pr_bit
  rw [hw, pd_set_bit hg hj]
  by_cases h : j < ng
  · simp [h]
  · simp [h, hv0 i j (Or.inr (by omega))]
theorem ps_and {w W : Nat} (hw : w < 512) (hW : W < 512) : (nI w &&& (nI W ^^^ (-1)) = 0) ↔ ∀ i, i < 9 → w.testBit i = true → W.testBit i = true := by
  have e : nI W ^^^ (-1) = ~~~ nI W := by
    apply Int32.toBitVec_inj.mp
    simp
  rw [e, ← Int32.toBitVec_inj]
  have ew : (nI w).toBitVec = BitVec.ofNat 32 w := rfl
  have eW : (nI W).toBitVec = BitVec.ofNat 32 W := rfl
  rw [Int32.toBitVec_and, Int32.toBitVec_not, ew, eW]
  constructor
  · intro h i hi hb
    have h2 : ((BitVec.ofNat 32 w) &&& ~~~ (BitVec.ofNat 32 W)).getLsbD i = (0#32).getLsbD i := congrArg (fun b => b.getLsbD i) h
    rw [BitVec.getLsbD_and, BitVec.getLsbD_not, BitVec.getLsbD_ofNat, BitVec.getLsbD_ofNat, BitVec.getLsbD_zero, hb] at h2
    simpa [show i < 32 by omega] using h2
  · intro h
    apply BitVec.eq_of_getLsbD_eq
    intro i hi
    show _ = (0#32).getLsbD i
    rw [BitVec.getLsbD_and, BitVec.getLsbD_not, BitVec.getLsbD_ofNat, BitVec.getLsbD_ofNat, BitVec.getLsbD_zero]
    cases hb : w.testBit i
    · simp
    · by_cases h9 : i < 9
      · rw [h i h9 hb]; simp [hi]
      · have : w.testBit i = false := Nat.testBit_lt_two_pow (Nat.lt_of_lt_of_le hw (show 2 ^ 9 ≤ 2 ^ i from Nat.pow_le_pow_right (by omega) (by omega)))
        rw [this] at hb; cases hb
theorem ps_sub {w W : Nat} (hw : w < 512) (hW : W < 512) : (nI w &&& (nI W ^^^ (-1)) = 0) ↔ ∀ i j, i < 3 → j < 3 → pr_bit w i j = true → pr_bit W i j = true := by
  rw [ps_and hw hW]
  unfold pr_bit
  constructor
  · intro h i j hi hj hb
    rw [pz_wS w hw i hi j hj] at hb
    rw [pz_wS W hW i hi j hj]
    exact h (3 * i + j) (by omega) hb
  · intro h i hi hb
    have := h (i / 3) (i % 3) (by omega) (by omega)
    rw [pz_wS w hw _ (by omega) _ (by omega), pz_wS W hW _ (by omega) _ (by omega), show 3 * (i / 3) + i % 3 = i by omega] at this
    exact this hb
def sg_un (w : Nat) : Nat → Nat
  | 0 => 0
  | k + 1 => sg_un w k ||| pz_w w k
theorem sg_or8 : ∀ a, a < 8 → ∀ b, b < 8 → a ||| b < 8 ∧ nI a ||| nI b = nI (a ||| b) := by decide +kernel
theorem sg_un_lt {w : Nat} : ∀ {k : Nat}, sg_un w k < 8
  | 0 => by simp [sg_un]
  | k + 1 => (sg_or8 _ (@sg_un_lt w k) _ pz_w_lt).1
theorem sg_un_bit {w j : Nat} : ∀ {k : Nat}, pz_S (sg_un w k) j = true ↔ ∃ i, i < k ∧ pr_bit w i j = true
  | 0 => by simp [sg_un, pz_S]
  | k + 1 => by
    have ih := @sg_un_bit w j k
    unfold pz_S at ih ⊢
    rw [sg_un, Nat.testBit_or, Bool.or_eq_true, ih]
    constructor
    · rintro (⟨i, h1, h2⟩ | h)
      · exact ⟨i, by omega, h2⟩
      · exact ⟨k, by omega, h⟩
    · rintro ⟨i, h1, h2⟩
      by_cases e : i = k
      · right; rw [e] at h2; exact h2
      · left; exact ⟨i, by omega, h2⟩
theorem sg_full : ∀ s, s < 8 → ∀ g, g ≤ 3 → (s = 2 ^ g - 1 ↔ ∀ j, j < 3 → (pz_S s j = true ↔ j < g)) := by decide +kernel
theorem sg_ne0 : ∀ s, s < 8 → (s ≠ 0 ↔ ∃ j, j < 3 ∧ pz_S s j = true) := by decide +kernel
theorem ps_coversAll {nb ng w : Nat} {mso : Int32} {mun : Int64} {mpu mwo : Nat → Int32} (hb : nb ≤ 3) (hg : ng ≤ 3) (hw : w < 512) :
    ∃ fl : Bool, f_S_coversAll (nI nb) (nI ng) mpu mwo mso mun (nI w) = some (pz_B fl) ∧ (fl = true ↔ (∀ i, i < nb → pz_w w i ≠ 0) ∧ ∀ j, j < 3 → ((∃ i, i < nb ∧ pr_bit w i j = true) ↔ j < ng)) := by
  have main : ∃ x, gq_it 1000000 (fb_S_coversAll_4 (nI nb) (nI w)) (0, 0) = some x ∧ gq_e (fun _ => ∃ i, i < nb ∧ pz_w w i = 0) (fun y => (∀ i, i < nb → pz_w w i ≠ 0) ∧ y = nI (sg_un w nb)) x := by
    refine pz_invF (fun k z => z.1 = nI k ∧ (∀ i, i < k → pz_w w i ≠ 0) ∧ z.2 = nI (sg_un w k)) 0 nb (by omega) (by omega) ⟨rfl, fun i h => by omega, rfl⟩ (fun k z hk hz => ?_) (fun z hz => ?_)
    · obtain ⟨z1, z2, z3⟩ := hz
      have w8 := @pz_w_lt w k
      simp only [fb_S_coversAll_4, z1, z3, if_neg (pz_ge hk hb), ps_boughtBy hw (show k < 3 by omega), Option.bind_some, nI_1, (sg_or8 _ (@sg_un_lt w k) _ w8).2]
      by_cases h : pz_w w k = 0
      · rw [if_pos (by rw [h]; rfl)]
        exact Or.inr ⟨_, rfl, k, hk, h⟩
      · rw [if_neg (nI_ne0 (by omega) (by omega))]
        exact Or.inl ⟨_, rfl, rfl, fun i hi => by
          by_cases e : i = k
          · rw [e]; exact h
          · exact z2 i (by omega), rfl⟩
    · obtain ⟨z1, z2, z3⟩ := hz
      simp only [fb_S_coversAll_4, z1, if_pos (pz_le' (Nat.le_refl nb) hb)]
      exact ⟨_, rfl, z2, z3⟩
  obtain ⟨x, x1, x2⟩ := main
  unfold f_S_coversAll
  rw [x1, Option.bind_some]
  cases x with
  | inl u =>
    obtain ⟨i, h1, h2⟩ := x2
    exact ⟨false, rfl, fun h => (by cases h), fun h => absurd h2 (h.1 i h1)⟩
  | inr y =>
    obtain ⟨h1, h2⟩ := x2
    have hu := @sg_un_lt w nb
    have hp2 := pz_p2 ng hg
    have hf := sg_full (sg_un w nb) hu ng hg
    simp only [gq_e, h2, pz_shm ng hg, nI_eq (show sg_un w nb < 2 ^ 31 by omega) (show 2 ^ ng - 1 < 2 ^ 31 by omega)]
    by_cases h : sg_un w nb = 2 ^ ng - 1
    · rw [if_pos h]
      refine ⟨true, rfl, fun _ => ⟨h1, fun j hj => ?_⟩, fun _ => rfl⟩
      rw [← sg_un_bit]; exact hf.mp h j hj
    · rw [if_neg h]
      refine ⟨false, rfl, fun q => (by cases q), fun q => absurd (hf.mpr (fun j hj => ?_)) h⟩
      rw [sg_un_bit]; exact q.2 j hj
/-! Pure part 25: Search's links: groups as sets, weights in proportion. -/
def sg_cnt (s : Nat) : Nat := (pz_S s 0).toNat + (pz_S s 1).toNat + (pz_S s 2).toNat
theorem sg_cnt_or : ∀ a, a < 8 → ∀ b, b < 8 → (∀ j, j < 3 → ¬ (pz_S a j = true ∧ pz_S b j = true)) → sg_cnt (a ||| b) = sg_cnt a + sg_cnt b := by decide +kernel
theorem sg_cnt_b : ∀ a, a < 8 → ∀ j, j < 3 → pz_S a j = true → 1 ≤ sg_cnt a ∧ sg_cnt a ≤ 3 := by decide +kernel
theorem sg_orS {a b x : Nat} : pz_S (a ||| b) x = (pz_S a x || pz_S b x) := by unfold pz_S; rw [Nat.testBit_or]
def sg_I (ng : Nat) (gs wt : Nat → Nat) : Prop := ∀ x, x < ng → gs x < 8 ∧ pz_S (gs x) x = true ∧ (∀ y, y < 3 → pz_S (gs x) y = true → y < ng ∧ gs y = gs x) ∧ 1 ≤ wt x ∧ wt x ≤ 9 ^ (sg_cnt (gs x) - 1)
def sg_Gc (ng : Nat) (gs wt q : Nat → Nat) : Prop := ∀ x y, x < ng → y < ng → gs x = gs y → wt x * q y = wt y * q x
def sg_ln (gs : Nat → Nat) (a b : Nat) : Nat → Nat := fun x => if pz_S (gs a ||| gs b) x = true then gs a ||| gs b else gs x
def sg_lw (gs wt : Nat → Nat) (a b ta tb : Nat) : Nat → Nat := fun x => if pz_S (gs a) x = true then wt x * ta else if pz_S (gs b) x = true then wt x * tb else wt x
theorem sg_81 {ng : Nat} {gs wt : Nat → Nat} (hg : ng ≤ 3) (hI : sg_I ng gs wt) {x : Nat} (hx : x < ng) : wt x ≤ 81 := by
  obtain ⟨h1, h2, h3, h4, h5⟩ := hI x hx
  have := sg_cnt_b (gs x) h1 x (by omega) h2
  have : 9 ^ (sg_cnt (gs x) - 1) ≤ 9 ^ 2 := Nat.pow_le_pow_right (by omega) (by omega)
  omega
theorem sg_disj {ng : Nat} {gs wt : Nat → Nat} (hI : sg_I ng gs wt) {a b : Nat} (ha : a < ng) (hb : b < ng) (hg : ng ≤ 3) (hn : pz_S (gs a) b = false) : ∀ j, j < 3 → ¬ (pz_S (gs a) j = true ∧ pz_S (gs b) j = true) := by
  rintro j hj ⟨h1, h2⟩
  have e1 := ((hI a ha).2.2.1 j hj h1).2
  have e2 := ((hI b hb).2.2.1 j hj h2).2
  have := (hI b hb).2.1
  rw [← e2, e1] at this
  rw [this] at hn; cases hn
theorem sg_I_ln {nb ng i a b : Nat} {v : Nat → Nat → Nat} {gs wt : Nat → Nat} (hg : ng ≤ 3) (hI : sg_I ng gs wt) (ha : a < ng) (hb : b < ng) (hn : pz_S (gs a) b = false) (hv9 : ∀ i j, v i j ≤ 9) (hva : 0 < v i a) (hvb : 0 < v i b) : sg_I ng (sg_ln gs a b) (sg_lw gs wt a b (v i a * wt b) (v i b * wt a)) := by
  have hd := sg_disj hI ha hb hg hn
  obtain ⟨a1, a2, a3, a4, a5⟩ := hI a ha
  obtain ⟨b1, b2, b3, b4, b5⟩ := hI b hb
  have hor := sg_or8 (gs a) a1 (gs b) b1
  have hcnt := sg_cnt_or (gs a) a1 (gs b) b1 hd
  have ca := sg_cnt_b (gs a) a1 a (by omega) a2
  have cb := sg_cnt_b (gs b) b1 b (by omega) b2
  intro x hx
  obtain ⟨x1, x2, x3, x4, x5⟩ := hI x hx
  unfold sg_ln sg_lw
  by_cases hu : pz_S (gs a ||| gs b) x = true
  · simp only [if_pos hu]
    have hu' := hu
    rw [sg_orS, Bool.or_eq_true] at hu'
    refine ⟨hor.1, hu, fun y hy hyb => ?_, ?_⟩
    · rw [if_pos hyb]
      rw [sg_orS, Bool.or_eq_true] at hyb
      rcases hyb with q | q
      · exact ⟨(a3 y hy q).1, rfl⟩
      · exact ⟨(b3 y hy q).1, rfl⟩
    · rw [hcnt]
      by_cases hxa : pz_S (gs a) x = true
      · rw [if_pos hxa]
        have e := (a3 x (by omega) hxa).2
        rw [e] at x5
        refine ⟨Nat.mul_pos x4 (Nat.mul_pos hva b4), ?_⟩
        have : wt x * (v i a * wt b) ≤ 9 ^ (sg_cnt (gs a) - 1) * (9 * 9 ^ (sg_cnt (gs b) - 1)) := Nat.mul_le_mul x5 (Nat.mul_le_mul (hv9 i a) b5)
        rw [Nat.mul_comm 9, ← Nat.pow_succ, ← Nat.pow_add] at this
        rw [show sg_cnt (gs a) + sg_cnt (gs b) - 1 = sg_cnt (gs a) - 1 + (sg_cnt (gs b) - 1).succ by omega]
        exact this
      · have hxb : pz_S (gs b) x = true := by rcases hu' with q | q; exact absurd q hxa; exact q
        rw [if_neg hxa, if_pos hxb]
        have e := (b3 x (by omega) hxb).2
        rw [e] at x5
        refine ⟨Nat.mul_pos x4 (Nat.mul_pos hvb a4), ?_⟩
        have : wt x * (v i b * wt a) ≤ 9 ^ (sg_cnt (gs b) - 1) * (9 * 9 ^ (sg_cnt (gs a) - 1)) := Nat.mul_le_mul x5 (Nat.mul_le_mul (hv9 i b) a5)
        rw [Nat.mul_comm 9, ← Nat.pow_succ, ← Nat.pow_add] at this
        rw [show sg_cnt (gs a) + sg_cnt (gs b) - 1 = sg_cnt (gs b) - 1 + (sg_cnt (gs a) - 1).succ by omega]
        exact this
  · simp only [if_neg hu]
    have hu' := hu
    rw [sg_orS, Bool.or_eq_true] at hu'
    have n1 : ¬ pz_S (gs a) x = true := fun q => hu' (Or.inl q)
    have n2 : ¬ pz_S (gs b) x = true := fun q => hu' (Or.inr q)
    rw [if_neg n1, if_neg n2]
    refine ⟨x1, x2, fun y hy hyb => ?_, x4, x5⟩
    obtain ⟨y1, y2⟩ := x3 y hy hyb
    refine ⟨y1, ?_⟩
    rw [if_neg]
    · exact y2
    · rw [sg_orS, Bool.or_eq_true]
      rintro (q | q)
      · have e := (a3 y hy q).2
        rw [← y2, e] at x2; exact n1 x2
      · have e := (b3 y hy q).2
        rw [← y2, e] at x2; exact n2 x2
theorem sg_ln_mono {ng a b : Nat} {gs wt : Nat → Nat} (hI : sg_I ng gs wt) (ha : a < ng) (hb : b < ng) (hg : ng ≤ 3) {x y : Nat} (hx : x < ng) (hy : y < ng) (h : gs x = gs y) : sg_ln gs a b x = sg_ln gs a b y := by
  have key : ∀ x y, x < ng → y < ng → gs x = gs y → pz_S (gs a ||| gs b) x = true → pz_S (gs a ||| gs b) y = true := fun x y hx hy h hu => by
    rw [sg_orS, Bool.or_eq_true] at hu ⊢
    rcases hu with q | q
    · left
      have e := ((hI a ha).2.2.1 x (by omega) q).2
      have := (hI y hy).2.1
      rw [← h, e] at this; exact this
    · right
      have e := ((hI b hb).2.2.1 x (by omega) q).2
      have := (hI y hy).2.1
      rw [← h, e] at this; exact this
  unfold sg_ln
  by_cases hu : pz_S (gs a ||| gs b) x = true
  · rw [if_pos hu, if_pos (key x y hx hy h hu)]
  · rw [if_neg hu, if_neg (fun q => hu (key y x hy hx h.symm q)), h]
theorem sg_ln_ab {ng a b : Nat} {gs wt : Nat → Nat} (hI : sg_I ng gs wt) (ha : a < ng) (hb : b < ng) : sg_ln gs a b a = sg_ln gs a b b := by
  unfold sg_ln
  rw [if_pos (by rw [sg_orS, (hI a ha).2.1]; rfl), if_pos (by rw [sg_orS, (hI b hb).2.1, Bool.or_true])]
theorem sg_Gc_ln {ng i a b : Nat} {v : Nat → Nat → Nat} {gs wt q : Nat → Nat} (hg : ng ≤ 3) (hI : sg_I ng gs wt) (ha : a < ng) (hb : b < ng) (hn : pz_S (gs a) b = false) (hc : sg_Gc ng gs wt q) (he : v i a * q b = v i b * q a) : sg_Gc ng (sg_ln gs a b) (sg_lw gs wt a b (v i a * wt b) (v i b * wt a)) q := by
  have hd := sg_disj hI ha hb hg hn
  obtain ⟨a1, a2, a3, a4, a5⟩ := hI a ha
  obtain ⟨b1, b2, b3, b4, b5⟩ := hI b hb
  have cross : ∀ x y, x < ng → y < ng → pz_S (gs a) x = true → pz_S (gs b) y = true → wt x * (v i a * wt b) * q y = wt y * (v i b * wt a) * q x := fun x y hx hy h1 h2 => by
    rw [Nat.mul_comm (v i a), Nat.mul_comm (v i b)]
    exact pr_cons4 (hc x a hx ha (a3 x (by omega) h1).2) (hc y b hy hb (b3 y (by omega) h2).2) he
  have mulc : ∀ {t X Y Q R : Nat}, X * Q = Y * R → X * t * Q = Y * t * R := fun {t X Y Q R} h => by
    calc X * t * Q = t * (X * Q) := by ac_rfl
      _ = t * (Y * R) := by rw [h]
      _ = _ := by ac_rfl
  have nab : ∀ x, x < 3 → pz_S (gs b) x = true → ¬ pz_S (gs a) x = true := fun x hx h1 h2 => hd x hx ⟨h2, h1⟩
  intro x y hx hy hxy
  have own : ∀ x, x < ng → pz_S (sg_ln gs a b x) x = true := fun x hx => by
    unfold sg_ln; by_cases hu : pz_S (gs a ||| gs b) x = true
    · rw [if_pos hu]; exact hu
    · rw [if_neg hu]; exact (hI x hx).2.1
  have hxy' := hxy
  unfold sg_ln at hxy'
  unfold sg_lw
  by_cases hu : pz_S (gs a ||| gs b) x = true
  · have hv : pz_S (gs a ||| gs b) y = true := by
      have := own y hy
      rw [← hxy] at this
      unfold sg_ln at this
      rw [if_pos hu] at this; exact this
    rw [sg_orS, Bool.or_eq_true] at hu hv
    by_cases hxa : pz_S (gs a) x = true
    · rw [if_pos hxa]
      by_cases hya : pz_S (gs a) y = true
      · rw [if_pos hya]
        exact mulc (hc x y hx hy (by rw [(a3 x (by omega) hxa).2, (a3 y (by omega) hya).2]))
      · have hyb : pz_S (gs b) y = true := by rcases hv with q | q; exact absurd q hya; exact q
        rw [if_neg hya, if_pos hyb]
        exact cross x y hx hy hxa hyb
    · have hxb : pz_S (gs b) x = true := by rcases hu with q | q; exact absurd q hxa; exact q
      rw [if_neg hxa, if_pos hxb]
      by_cases hya : pz_S (gs a) y = true
      · rw [if_pos hya]
        exact (cross y x hy hx hya hxb).symm
      · have hyb : pz_S (gs b) y = true := by rcases hv with q | q; exact absurd q hya; exact q
        rw [if_neg hya, if_pos hyb]
        exact mulc (hc x y hx hy (by rw [(b3 x (by omega) hxb).2, (b3 y (by omega) hyb).2]))
  · have hv : ¬ pz_S (gs a ||| gs b) y = true := fun q => by
      have := own x hx
      rw [hxy] at this
      unfold sg_ln at this
      rw [if_pos q] at this; exact hu this
    rw [if_neg hu, if_neg hv] at hxy'
    rw [sg_orS, Bool.or_eq_true] at hu hv
    rw [if_neg (fun q => hu (Or.inl q)), if_neg (fun q => hu (Or.inr q)), if_neg (fun q => hv (Or.inl q)), if_neg (fun q => hv (Or.inr q))]
    exact hc x y hx hy hxy'
theorem pz_keepI {F d : Nat → Int32} {k : Nat} (h : F k = d k) : (fun j => if j < k then F j else d j) = fun j => if j < k + 1 then F j else d j := by
  funext j
  by_cases e : j = k
  · subst e; simp [h]
  · by_cases h2 : j < k
    · rw [if_pos h2, if_pos (by omega)]
    · rw [if_neg h2, if_neg (by omega)]
theorem pz_keepL {F d : Nat → Int64} {k : Nat} (h : F k = d k) : (fun j => if j < k then F j else d j) = fun j => if j < k + 1 then F j else d j := by
  funext j
  by_cases e : j = k
  · subst e; simp [h]
  · by_cases h2 : j < k
    · rw [if_pos h2, if_pos (by omega)]
    · rw [if_neg h2, if_neg (by omega)]
def sg_R (ng : Nat) (sgr : Nat → Int32) (swe : Nat → Int64) (gs wt : Nat → Nat) : Prop := (∀ x, x < ng → sgr x = nI (gs x)) ∧ (∀ x, x < ng → swe x = pz (wt x))
theorem ps_links {nb ng i a b : Nat} {mbu mso : Int32} {mun : Int64} {mpu mwo sgr : Nat → Int32} {swe : Nat → Int64} {v : Nat → Nat → Nat} {gs wt : Nat → Nat} (hb3 : nb ≤ 3) (hg : ng ≤ 3) (hv : ∀ i j, i < nb → j < ng → mwo (3 * i + j) = nI (v i j)) (hv9 : ∀ i j, v i j ≤ 9) (hR : sg_R ng sgr swe gs wt) (hI : sg_I ng gs wt) (hi : i < nb) (ha : a < ng) (hb : b < ng) :
    (pz_S (gs a) b = true → f_S_links sgr swe mbu (nI ng) mpu mwo mso mun (nI i) (nI a) (nI b) = some (0, sgr, swe)) ∧
    (pz_S (gs a) b = false → ∃ sgr' swe', f_S_links sgr swe mbu (nI ng) mpu mwo mso mun (nI i) (nI a) (nI b) = some (1, sgr', swe') ∧ sg_R ng sgr' swe' (sg_ln gs a b) (sg_lw gs wt a b (v i a * wt b) (v i b * wt a))) := by
  obtain ⟨R1, R2⟩ := hR
  have ga := (hI a ha).1
  have gb := (hI b hb).1
  have hor := sg_or8 (gs a) ga (gs b) gb
  have va := hv9 i a
  have vb := hv9 i b
  constructor
  · intro h
    unfold f_S_links
    simp only [pz_g (show a < 3 by omega), pz_c (n := a) (by omega), R1 a ha, pz_has' (show gs a < 512 by omega) (show b < 9 by omega), Option.bind_some, h, if_true, if_neg (show ¬ (1 : Int32) = 0 by decide)]
  · intro h
    have e : gq_it 1000000 (fb_S_links_78 sgr swe (nI ng) mwo (nI a) (nI b) (nI (3 * i + a)) (nI (3 * i + b))) (0, sgr, swe) = some ((fun x => if x < ng then nI (sg_ln gs a b x) else sgr x), (fun x => if x < ng then pz (sg_lw gs wt a b (v i a * wt b) (v i b * wt a) x) else swe x)) := by
      refine pz_for (fun k => (nI k, (fun x => if x < k then nI (sg_ln gs a b x) else sgr x), (fun x => if x < k then pz (sg_lw gs wt a b (v i a * wt b) (v i b * wt a) x) else swe x))) 0 ng (by omega) (by omega) (fun k _ hk => ?_) ?_
      · have c1 : pz (wt k : Int) * (pz (v i a : Int) * pz (wt b : Int)) = pz ((wt k * (v i a * wt b) : Nat) : Int) := by rw [pz_mul, pz_mul]; simp
        have c2 : pz (wt k : Int) * (pz (v i b : Int) * pz (wt a : Int)) = pz ((wt k * (v i b * wt a) : Nat) : Int) := by rw [pz_mul, pz_mul]; simp
        simp only [fb_S_links_78, if_neg (pz_ge hk hg), pz_c (n := a) (by omega), pz_c (n := b) (by omega), pz_c (n := k) (by omega), pz_c (n := 3 * i + a) (by omega), pz_c (n := 3 * i + b) (by omega), R1 a ha, R1 b hb, R2 a ha, R2 b hb, hor.2, pz_has' (show gs a ||| gs b < 512 by have := hor.1; omega) (show k < 9 by omega), pz_has' (show gs a < 512 by omega) (show k < 9 by omega), Option.bind_some, pz_g (show k < 3 by omega), hv i a hi ha, hv i b hi hb, pz_nI (show v i a < 2 ^ 31 by omega), pz_nI (show v i b < 2 ^ 31 by omega), nI_1, Nat.lt_irrefl, if_false, R2 k hk, c1, c2]
        have u1 := @pz_updI (fun x => nI (sg_ln gs a b x)) sgr k
        have u2 := @pz_updL (fun x => pz (sg_lw gs wt a b (v i a * wt b) (v i b * wt a) x)) swe k
        by_cases hu : pz_S (gs a ||| gs b) k = true
        · have l1 : sg_ln gs a b k = gs a ||| gs b := by unfold sg_ln; rw [if_pos hu]
          rw [l1] at u1
          rw [if_pos hu, if_neg (show ¬ (1 : Int32) = 0 by decide), u1]
          by_cases hxa : pz_S (gs a) k = true
          · have l2 : sg_lw gs wt a b (v i a * wt b) (v i b * wt a) k = wt k * (v i a * wt b) := by unfold sg_lw; rw [if_pos hxa]
            rw [l2] at u2
            rw [if_pos hxa, if_neg (show ¬ (1 : Int32) = 0 by decide), u2]
          · have hxb : pz_S (gs b) k = true := by
              rw [sg_orS, Bool.or_eq_true] at hu
              rcases hu with q | q; exact absurd q hxa; exact q
            have l2 : sg_lw gs wt a b (v i a * wt b) (v i b * wt a) k = wt k * (v i b * wt a) := by unfold sg_lw; rw [if_neg hxa, if_pos hxb]
            rw [l2] at u2
            rw [if_neg hxa, if_pos rfl, u2]
        · rw [if_neg hu, if_pos rfl]
          have hu' := hu
          rw [sg_orS, Bool.or_eq_true] at hu'
          have k1 := @pz_keepI (fun x => nI (sg_ln gs a b x)) sgr k (by show nI (sg_ln gs a b k) = sgr k; unfold sg_ln; rw [if_neg hu, R1 k hk])
          have k2 := @pz_keepL (fun x => pz (sg_lw gs wt a b (v i a * wt b) (v i b * wt a) x)) swe k (by show pz (sg_lw gs wt a b (v i a * wt b) (v i b * wt a) k : Nat) = swe k; unfold sg_lw; rw [if_neg (fun q => hu' (Or.inl q)), if_neg (fun q => hu' (Or.inr q)), R2 k hk])
          rw [k1, k2]
      · simp only [fb_S_links_78, if_pos (pz_le' (Nat.le_refl ng) hg)]
    unfold f_S_links
    simp only [pz_g (show a < 3 by omega), pz_g (show b < 3 by omega), pz_c (n := a) (by omega), R1 a ha, pz_has' (show gs a < 512 by omega) (show b < 9 by omega), Option.bind_some, h, Bool.false_eq_true, if_false, if_true, pd_cell, pz_g (show 3 * i + a < 9 by omega), pz_g (show 3 * i + b < 9 by omega), e]
    exact ⟨_, _, rfl, fun x hx => if_pos hx, fun x hx => if_pos hx⟩
/-! Pure part 26: Search's linksAll; a way without a ring links all. -/
def sg_row (set f : Nat) : Nat → Nat → (Nat → Nat) → Option (Nat → Nat)
  | 0, _, gs => some gs
  | d + 1, k, gs => if pz_S set k = true then (if pz_S (gs f) k = true then none else sg_row set f d (k + 1) (sg_ln gs f k)) else sg_row set f d (k + 1) gs
def sg_all (w : Nat) : Nat → Nat → (Nat → Nat) → Option (Nat → Nat)
  | 0, _, gs => some gs
  | d + 1, i, gs => match sg_row (pz_w w i) (sg_f (pz_w w i)) (3 - (sg_f (pz_w w i) + 1)) (sg_f (pz_w w i) + 1) gs with
    | none => none
    | some g => sg_all w d (i + 1) g
def sg_4 (w i k j n : Nat) : Bool := pr_bit w i j && pr_bit w i n && pr_bit w k j && pr_bit w k n
def sg_6 (w a b d : Nat) : Bool := pr_bit w 0 a && pr_bit w 0 d && pr_bit w 1 a && pr_bit w 1 b && pr_bit w 2 b && pr_bit w 2 d
def sg_ring (w : Nat) : Bool :=
  sg_4 w 0 1 0 1 || sg_4 w 0 1 0 2 || sg_4 w 0 1 1 2 || sg_4 w 0 2 0 1 || sg_4 w 0 2 0 2 || sg_4 w 0 2 1 2 || sg_4 w 1 2 0 1 || sg_4 w 1 2 0 2 || sg_4 w 1 2 1 2 ||
  sg_6 w 0 1 2 || sg_6 w 0 2 1 || sg_6 w 1 0 2 || sg_6 w 1 2 0 || sg_6 w 2 0 1 || sg_6 w 2 1 0
theorem sg_noring : ∀ w, w < 512 → sg_ring w = false → (sg_all w 3 0 (fun x => 2 ^ x)).isSome = true := by decide +kernel
theorem sg_ring_of {w : Nat} (h4 : mq_4 (pr_bit w)) (h6 : mq_6 (pr_bit w)) : sg_ring w = false := by
  have e4 : ∀ i k j n, i < 3 → k < 3 → j < 3 → n < 3 → i ≠ k → j ≠ n → sg_4 w i k j n = false := fun i k j n a b c d e f => by
    cases q : sg_4 w i k j n
    · rfl
    · unfold sg_4 at q
      simp only [Bool.and_eq_true] at q
      exact absurd ⟨q.1.1.1, q.1.1.2, q.1.2, q.2⟩ (h4 i k j n a b c d e f)
  have e6 : ∀ a b d, a < 3 → b < 3 → d < 3 → a ≠ b → a ≠ d → b ≠ d → sg_6 w a b d = false := fun a b d h1 h2 h3 h4 h5 h7 => by
    cases q : sg_6 w a b d
    · rfl
    · unfold sg_6 at q
      simp only [Bool.and_eq_true] at q
      exact absurd ⟨q.1.1.1.1.1, q.1.1.1.1.2, q.1.1.1.2, q.1.1.2, q.1.2, q.2⟩ (h6 0 1 2 a b d (by omega) (by omega) (by omega) h1 h2 h3 (by omega) (by omega) (by omega) h4 h5 h7)
  unfold sg_ring
  rw [e4 0 1 0 1, e4 0 1 0 2, e4 0 1 1 2, e4 0 2 0 1, e4 0 2 0 2, e4 0 2 1 2, e4 1 2 0 1, e4 1 2 0 2, e4 1 2 1 2, e6 0 1 2, e6 0 2 1, e6 1 0 2, e6 1 2 0, e6 2 0 1, e6 2 1 0] <;> first | rfl | omega
theorem sg_row_end {set f : Nat} {gs : Nat → Nat} : ∀ {d k : Nat}, (∀ j, k ≤ j → j < k + d → pz_S set j = false) → sg_row set f d k gs = some gs
  | 0, k, _ => rfl
  | d + 1, k, h => by
    rw [sg_row, h k (by omega) (by omega)]
    simp only [Bool.false_eq_true, if_false]
    exact sg_row_end (fun j h1 h2 => h j (by omega) (by omega))
/-- Search's state when the first n buyers are done -/
def sg_St (nb ng : Nat) (v : Nat → Nat → Nat) (w n : Nat) (sgr : Nat → Int32) (swe : Nat → Int64) (gs wt : Nat → Nat) : Prop :=
  sg_R ng sgr swe gs wt ∧ sg_I ng gs wt ∧ (∀ a j, a < n → j < ng → pr_bit w a j = true → gs j = gs (sg_f (pz_w w a))) ∧ (∀ q, pr_F nb ng v w q → sg_Gc ng gs wt q)
theorem ps_linksAll {nb ng w : Nat} {mso : Int32} {mun : Int64} {mpu mwo sgr : Nat → Int32} {swe : Nat → Int64} {v : Nat → Nat → Nat} (hb : nb ≤ 3) (hg : ng ≤ 3) (hv : ∀ i j, i < nb → j < ng → mwo (3 * i + j) = nI (v i j)) (hv9 : ∀ i j, v i j ≤ 9) (hw : w < 512)
    (hne : ∀ i, i < nb → pz_w w i ≠ 0) (hbit : ∀ i j, i < nb → j < 3 → pr_bit w i j = true → j < ng ∧ 0 < v i j) :
    ∃ (fl : Bool) (sgr' : Nat → Int32) (swe' : Nat → Int64), f_S_linksAll sgr swe (nI nb) (nI ng) mpu mwo mso mun (nI w) = some (pz_B fl, sgr', swe') ∧ (fl = true → ∃ gs wt, sg_St nb ng v w nb sgr' swe' gs wt) ∧ ((sg_all w 3 0 (fun x => 2 ^ x)).isSome = true → fl = true) := by
  have e0 : gq_it 1000000 (fb_S_linksAll_2 (nI ng)) (0, sgr, swe) = some ((fun x => if x < ng then nI (2 ^ x) else sgr x), (fun x => if x < ng then pz 1 else swe x)) := by
    refine pz_for (fun k => (nI k, (fun x => if x < k then nI (2 ^ x) else sgr x), (fun x => if x < k then pz 1 else swe x))) 0 ng (by omega) (by omega) (fun k _ hk => ?_) ?_
    · simp only [fb_S_linksAll_2, if_neg (pz_ge hk hg), pz_g (show k < 3 by omega), pz_c (n := k) (by omega), nI_1, pz_sh k (by omega)]
      have u1 := @pz_updI (fun x => nI (2 ^ x)) sgr k
      have u2 := @pz_updL (fun _ => pz 1) swe k
      rw [show (1 : Int64) = pz 1 from rfl, u1, u2]
    · simp only [fb_S_linksAll_2, if_pos (pz_le' (Nat.le_refl ng) hg)]
  generalize hRR : sg_all w 3 0 (fun x => 2 ^ x) = RR at *
  have p2S : ∀ x, x < 3 → 2 ^ x < 8 ∧ ∀ y, y < 3 → (pz_S (2 ^ x) y = true ↔ y = x) := by decide
  have main : ∃ x, gq_it 1000000 (fb_S_linksAll_34 (nI nb) (nI ng) mpu mwo mso mun (nI w)) (0, (fun x => if x < ng then nI (2 ^ x) else sgr x), (fun x => if x < ng then pz 1 else swe x)) = some x ∧ gq_e (fun _ => RR = none) (fun y => ∃ gs wt, sg_St nb ng v w nb y.1 y.2 gs wt) x := by
    refine pz_invF (fun i z => z.1 = nI i ∧ ∃ gs wt, sg_St nb ng v w i z.2.1 z.2.2 gs wt ∧ sg_all w (3 - i) i gs = RR) 0 nb (by omega) (by omega) ⟨rfl, (fun x => 2 ^ x), (fun _ => 1), ⟨⟨fun x hx => if_pos hx, fun x hx => if_pos hx⟩, fun x hx => ?_, fun a j h => by omega, fun q _ x y _ _ h => ?_⟩, hRR⟩ (fun i z hi hz => ?_) (fun z hz => ?_)
    · obtain ⟨q1, q2⟩ := p2S x (by omega)
      refine ⟨q1, (q2 x (by omega)).mpr rfl, fun y hy h => ?_, Nat.le_refl 1, Nat.pow_pos (by omega)⟩
      have := (q2 y hy).mp h
      subst this; exact ⟨hx, rfl⟩
    · rename_i hx hy
      have h1 := (p2S x (by omega)).2 x (by omega)
      have h2 := (p2S y (by omega)).2 x (by omega)
      simp only at h
      rw [h] at h1
      have := h2.mp (h1.mpr rfl)
      subst this; rfl
    · obtain ⟨z1, gs, wt, ⟨zR, zI, zr, zc⟩, zA⟩ := hz
      have w8 := @pz_w_lt w i
      obtain ⟨f1, f2⟩ := sg_f_in (pz_w w i) w8 (hne i hi)
      have f3 := @sg_f_lt (pz_w w i)
      generalize hset : pz_w w i = set at *
      generalize hf : sg_f set = f at *
      have hbi : ∀ j, j < 3 → pz_S set j = true → j < ng ∧ 0 < v i j := fun j hj h => hbit i j hi hj (by unfold pr_bit; rw [hset]; exact h)
      have hfn := hbi f f3 f1
      rw [show 3 - i = (3 - (i + 1)) + 1 by omega, sg_all, hset, hf] at zA
      generalize hrr : sg_row set f (3 - (f + 1)) (f + 1) gs = rr at *
      have hb0 : ∀ j, j < f + 1 → pz_S set j = true → gs j = gs f := fun j hj hb' => by
        by_cases e : j = f
        · rw [e]
        · rw [f2 j (by omega)] at hb'; cases hb'
      have inner : ∃ x, gq_it 1000000 (fb_S_linksAll_62 (nI nb) (nI ng) mpu mwo mso mun z (nI set) (nI f)) (nI (f + 1), z.2.1, z.2.2) = some x ∧ gq_e (fun _ => rr = none) (fun y => ∃ gs wt, sg_St nb ng v w (i + 1) y.1 y.2 gs wt ∧ rr = some gs) x := by
        refine pz_invF (fun k y => y.1 = nI k ∧ f < k ∧ ∃ gs wt, sg_St nb ng v w i y.2.1 y.2.2 gs wt ∧ (∀ j, j < k → pz_S set j = true → gs j = gs f) ∧ sg_row set f (3 - k) k gs = rr) (f + 1) ng (by omega) (by omega) ⟨rfl, by omega, gs, wt, ⟨zR, zI, zr, zc⟩, hb0, hrr⟩ (fun k y hk hy => ?_) (fun y hy => ?_)
        · obtain ⟨y1, fk, gs, wt, ⟨yR, yI, yr, yc⟩, yb, yA⟩ := hy
          simp only [fb_S_linksAll_62, y1, z1, if_neg (pz_ge hk hg), pz_has' (show set < 512 by omega) (show k < 9 by omega), Option.bind_some, nI_1]
          rw [show 3 - k = (3 - (k + 1)) + 1 by omega, sg_row] at yA
          cases hbk : pz_S set k
          · simp only [Bool.false_eq_true, if_false, if_true]
            rw [hbk] at yA
            simp only [Bool.false_eq_true, if_false] at yA
            refine Or.inl ⟨_, rfl, rfl, by omega, gs, wt, ⟨yR, yI, yr, yc⟩, fun j hj h => ?_, yA⟩
            by_cases e : j = k
            · rw [e, hbk] at h; cases h
            · exact yb j (by omega) h
          · simp only [if_true, if_neg (show ¬ (1 : Int32) = 0 by decide)]
            rw [hbk] at yA
            simp only [if_true] at yA
            have hbk' := hbi k (by omega) hbk
            obtain ⟨L1, L2⟩ := @ps_links nb ng i f k (nI nb) mso mun mpu mwo y.2.1 y.2.2 v gs wt hb hg hv hv9 yR yI hi hfn.1 hk
            cases hh : pz_S (gs f) k
            · obtain ⟨sgr', swe', l1, l2⟩ := L2 hh
              rw [hh] at yA
              simp only [Bool.false_eq_true, if_false] at yA
              rw [l1, Option.bind_some]
              simp only [if_neg (show ¬ (1 : Int32) = 0 by decide)]
              refine Or.inl ⟨_, rfl, rfl, by omega, _, _, ⟨l2, sg_I_ln (nb := nb) hg yI hfn.1 hk hh hv9 hfn.2 hbk'.2, fun a j ha hj h => ?_, fun q hq => sg_Gc_ln hg yI hfn.1 hk hh (yc q hq) ((hq.2 i hi).2.2 f k hfn.1 hk (by unfold pr_bit; rw [hset]; exact f1) (by unfold pr_bit; rw [hset]; exact hbk))⟩, fun j hj h => ?_, yA⟩
              · have hfa : sg_f (pz_w w a) < ng := by
                  have q1 := (sg_f_in (pz_w w a) pz_w_lt (hne a (by omega))).1
                  exact (hbit a _ (by omega) sg_f_lt q1).1
                exact sg_ln_mono yI hfn.1 hk hg hj hfa (yr a j ha hj h)
              · by_cases e : j = k
                · rw [e]; exact (sg_ln_ab yI hfn.1 hk).symm
                · exact sg_ln_mono yI hfn.1 hk hg (by omega) hfn.1 (yb j (by omega) h)
            · rw [L1 hh, Option.bind_some]
              rw [hh] at yA
              simp only [if_true] at yA
              simp only [if_true]
              exact Or.inr ⟨_, rfl, yA.symm⟩
        · obtain ⟨y1, fk, gs, wt, ⟨yR, yI, yr, yc⟩, yb, yA⟩ := hy
          simp only [fb_S_linksAll_62, y1, if_pos (pz_le' (Nat.le_refl ng) hg)]
          refine ⟨_, rfl, gs, wt, ⟨yR, yI, fun a j ha hj h => ?_, yc⟩, ?_⟩
          · by_cases e : a = i
            · subst e
              unfold pr_bit at h
              rw [hset] at h
              rw [hset, hf]
              exact yb j hj h
            · exact yr a j (by omega) hj h
          · rw [← yA]
            exact sg_row_end (fun j h1 h2 => by
              cases q : pz_S set j
              · rfl
              · have := (hbi j (by omega) q).1; omega)
      obtain ⟨x, x1, x2⟩ := inner
      simp only [fb_S_linksAll_34, z1, if_neg (pz_ge hi hb), ps_boughtBy hw (show i < 3 by omega), Option.bind_some, hset, pd_firstOf set w8, hf, nI_1, x1]
      cases x with
      | inl u =>
        refine Or.inr ⟨_, rfl, ?_⟩
        have : rr = none := x2
        rw [this] at zA
        exact zA.symm
      | inr u =>
        obtain ⟨gs', wt', u1, u2⟩ := x2
        rw [u2] at zA
        exact Or.inl ⟨_, rfl, rfl, gs', wt', u1, zA⟩
    · obtain ⟨z1, gs, wt, z2, -⟩ := hz
      simp only [fb_S_linksAll_34, z1, if_pos (pz_le' (Nat.le_refl nb) hb)]
      exact ⟨_, rfl, gs, wt, z2⟩
  obtain ⟨x, x1, x2⟩ := main
  unfold f_S_linksAll
  rw [e0, Option.bind_some, x1, Option.bind_some]
  cases x with
  | inl u =>
    have : RR = none := x2
    exact ⟨false, _, _, rfl, (fun h => by cases h), fun h => by rw [this] at h; cases h⟩
  | inr u => exact ⟨true, _, _, rfl, fun _ => x2, fun _ => rfl⟩
