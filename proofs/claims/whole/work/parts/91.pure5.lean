/-! Pure part 27: Search's prices. -/
def ps_d (ng : Nat) (gs wt : Nat → Nat) (j : Nat) : Nat := pn_s (fun g => if pz_S (gs j) g = true then wt g else 0) ng
def ps_M (nb : Nat) (m : Nat → Nat) (w : Nat) (gs : Nat → Nat) (j : Nat) : Nat := pn_s (fun i => if mq_g (pr_bit w) (pz_S (gs j)) i = true then m i else 0) nb
theorem ps_weightOf {ng s : Nat} {mbu mso : Int32} {mun : Int64} {mpu mwo sgr : Nat → Int32} {swe : Nat → Int64} {wt : Nat → Nat} (hg : ng ≤ 3) (hs : s < 8) (hR : ∀ x, x < ng → swe x = pz (wt x)) :
    f_S_weightOf sgr swe mbu (nI ng) mpu mwo mso mun (nI s) = some (pz (pn_s (fun g => if pz_S s g = true then wt g else 0) ng)) := by
  have e : gq_it 1000000 (fb_S_weightOf_5 swe (nI ng) (nI s)) (0, 0) = some (pz (pn_s (fun g => if pz_S s g = true then wt g else 0) ng)) := by
    refine pz_for (fun k => (nI k, pz (pn_s (fun g => if pz_S s g = true then wt g else 0) k))) 0 ng (by omega) (by omega) (fun k _ hk => ?_) ?_
    · simp only [fb_S_weightOf_5, if_neg (pz_ge hk hg), pz_has' (show s < 512 by omega) (show k < 9 by omega), Option.bind_some, pz_g (show k < 3 by omega), pz_c (n := k) (by omega), hR k hk, nI_1, pz_add, pn_s]
      cases pz_S s k
      · simp
      · simp
    · simp only [fb_S_weightOf_5, if_pos (pz_le' (Nat.le_refl ng) hg)]
  unfold f_S_weightOf
  rw [e]; rfl
theorem ps_moneyFor {nb w s : Nat} {mgo mso : Int32} {mun : Int64} {mpu mwo : Nat → Int32} {m : Nat → Nat} (hb : nb ≤ 3) (hw : w < 512) (hs : s < 8) (hm : ∀ i, i < nb → mpu i = nI (m i) ∧ m i ≤ 20) :
    f_S_moneyFor (nI nb) mgo mpu mwo mso mun (nI w) (nI s) = some (pz (pn_s (fun i => if mq_g (pr_bit w) (pz_S s) i = true then m i else 0) nb)) := by
  have e : gq_it 1000000 (fb_S_moneyFor_5 (nI nb) mpu (nI w) (nI s)) (0, 0) = some (pz (pn_s (fun i => if mq_g (pr_bit w) (pz_S s) i = true then m i else 0) nb)) := by
    refine pz_for (fun k => (nI k, pz (pn_s (fun i => if mq_g (pr_bit w) (pz_S s) i = true then m i else 0) k))) 0 nb (by omega) (by omega) (fun k _ hk => ?_) ?_
    · have e := pz_and0 (pz_w w k) pz_w_lt s hs
      rw [show mq_g (fun _ => pz_S (pz_w w k)) (pz_S s) 0 = mq_g (pr_bit w) (pz_S s) k from rfl] at e
      obtain ⟨m1, m2⟩ := hm k hk
      simp only [fb_S_moneyFor_5, if_neg (pz_ge hk hb), ps_boughtBy hw (show k < 3 by omega), Option.bind_some, pz_g (show k < 3 by omega), pz_c (n := k) (by omega), m1, pz_nI (show m k < 2 ^ 31 by omega), nI_1, pz_add, pn_s]
      cases h : mq_g (pr_bit w) (pz_S s) k
      · rw [if_pos (e.mpr h)]; simp
      · rw [if_neg (fun q => by rw [e.mp q] at h; cases h)]; simp
    · simp only [fb_S_moneyFor_5, if_pos (pz_le' (Nat.le_refl nb) hb)]
  unfold f_S_moneyFor
  rw [e]; rfl
theorem ps_tellPrices {nb ng w : Nat} {mso : Int32} {mun : Int64} {mpu mwo sgr : Nat → Int32} {swe pab pbe : Nat → Int64} {m : Nat → Nat} {gs wt : Nat → Nat} (hb : nb ≤ 3) (hg : ng ≤ 3) (hw : w < 512) (hm : ∀ i, i < nb → mpu i = nI (m i) ∧ m i ≤ 20) (hR : sg_R ng sgr swe gs wt) (hI : sg_I ng gs wt) :
    f_S_tellPrices sgr swe (nI nb) (nI ng) mpu mwo mso mun pab pbe (nI w) = some ((fun j => if j < ng then pz ((ps_M nb m w gs j * wt j : Nat) : Int) else pab j), (fun j => if j < ng then pz (ps_d ng gs wt j) else pbe j)) := by
  obtain ⟨R1, R2⟩ := hR
  have e : gq_it 1000000 (fb_S_tellPrices_2 sgr swe (nI nb) (nI ng) mpu mwo mso mun (nI w)) (0, pab, pbe) = some ((fun j => if j < ng then pz ((ps_M nb m w gs j * wt j : Nat) : Int) else pab j), (fun j => if j < ng then pz (ps_d ng gs wt j) else pbe j)) := by
    refine pz_for (fun k => (nI k, (fun j => if j < k then pz ((ps_M nb m w gs j * wt j : Nat) : Int) else pab j), (fun j => if j < k then pz (ps_d ng gs wt j) else pbe j))) 0 ng (by omega) (by omega) (fun k _ hk => ?_) ?_
    · have c1 : pz ((pn_s (fun i => if mq_g (pr_bit w) (pz_S (gs k)) i = true then m i else 0) nb : Nat) : Int) * pz (wt k : Int) = pz ((ps_M nb m w gs k * wt k : Nat) : Int) := by rw [pz_mul]; simp [ps_M]
      have u1 := @pz_updL (fun j => pz ((ps_M nb m w gs j * wt j : Nat) : Int)) pab k
      have u2 := @pz_updL (fun j => pz (ps_d ng gs wt j)) pbe k
      simp only [fb_S_tellPrices_2, if_neg (pz_ge hk hg), pz_g (show k < 3 by omega), pz_c (n := k) (by omega), R1 k hk, R2 k hk, ps_moneyFor hb hw (hI k hk).1 hm, ps_weightOf hg (hI k hk).1 R2, Option.bind_some, nI_1, c1]
      have c2 : pz ((pn_s (fun g => if pz_S (gs k) g = true then wt g else 0) ng : Nat) : Int) = pz (ps_d ng gs wt k) := rfl
      rw [c2, u1, u2]
    · simp only [fb_S_tellPrices_2, if_pos (pz_le' (Nat.le_refl ng) hg)]
  unfold f_S_tellPrices
  rw [e]; rfl
theorem pd_pr_mul {d : Nat → Int} {ng j : Nat} (hg : ng ≤ 3) (hj : j < ng) : pd_pr d j ng * d j = pd_U d ng := by
  unfold pd_U
  rcases (by omega : ng = 1 ∨ ng = 2 ∨ ng = 3) with rfl | rfl | rfl
  · rcases (by omega : j = 0) with rfl
    simp [pd_pr]
  · rcases (by omega : j = 0 ∨ j = 1) with rfl | rfl <;> simp [pd_pr, Int.mul_comm]
  · rcases (by omega : j = 0 ∨ j = 1 ∨ j = 2) with rfl | rfl | rfl
    · simp [pd_pr]; rw [Int.mul_comm, ← Int.mul_assoc]
    · simp [pd_pr]; rw [Int.mul_assoc, Int.mul_comm (d 2), ← Int.mul_assoc]
    · simp [pd_pr]
theorem pd_pr_b {d : Nat → Int} {x : Nat} {B : Int} (hB : 1 ≤ B) : ∀ {n : Nat}, (∀ j, j < n → 1 ≤ d j ∧ d j ≤ B) → 1 ≤ pd_pr d x n ∧ pd_pr d x n ≤ B ^ n
  | 0, _ => by simp [pd_pr]
  | n + 1, h => by
    obtain ⟨h1, h2⟩ := @pd_pr_b d x B hB n (fun j hj => h j (by omega))
    obtain ⟨h3, h4⟩ := h n (by omega)
    rw [pd_pr, Int.pow_succ]
    have hp : 1 ≤ pd_pr d x n * d n ∧ pd_pr d x n * d n ≤ B ^ n * B := by
      refine ⟨?_, Int.mul_le_mul h2 h4 (by omega) (by omega)⟩
      have := Int.mul_pos (show 0 < pd_pr d x n by omega) (show 0 < d n by omega)
      omega
    split
    · refine ⟨h1, ?_⟩
      have : B ^ n * 1 ≤ B ^ n * B := Int.mul_le_mul_of_nonneg_left hB (by omega)
      omega
    · exact hp
theorem pd_pr_c {d : Nat → Int} {ng x : Nat} {B : Int} (hB : 1 ≤ B) (hg : ng ≤ 3) (hx : x < ng) (h : ∀ j, j < ng → 1 ≤ d j ∧ d j ≤ B) : 1 ≤ pd_pr d x ng ∧ pd_pr d x ng ≤ B * B := by
  obtain ⟨hl, -⟩ := @pd_pr_b d x B hB ng h
  refine ⟨hl, ?_⟩
  have q : 1 * B ≤ B * B := Int.mul_le_mul_of_nonneg_right hB (by omega)
  have hm : ∀ {a b : Int}, 1 ≤ a → a ≤ B → 1 ≤ b → b ≤ B → a * b ≤ B * B := fun {a b} h1 h2 h3 h4 => Int.mul_le_mul h2 h4 (by omega) (by omega)
  rcases (by omega : ng = 1 ∨ ng = 2 ∨ ng = 3) with rfl | rfl | rfl
  · rcases (by omega : x = 0) with rfl
    simp [pd_pr]; omega
  · have h0 := h 0 (by omega); have h1 := h 1 (by omega)
    rcases (by omega : x = 0 ∨ x = 1) with rfl | rfl <;> simp [pd_pr] <;> omega
  · have h0 := h 0 (by omega); have h1 := h 1 (by omega); have h2 := h 2 (by omega)
    rcases (by omega : x = 0 ∨ x = 1 ∨ x = 2) with rfl | rfl | rfl <;> simp [pd_pr]
    · exact hm h1.1 h1.2 h2.1 h2.2
    · exact hm h0.1 h0.2 h2.1 h2.2
    · exact hm h0.1 h0.2 h1.1 h1.2
theorem ps_M_z {nb w j : Nat} {m : Nat → Nat} {gs : Nat → Nat} (hb : nb ≤ 3) (hm0 : ∀ i, nb ≤ i → m i = 0) : ((ps_M nb m w gs j : Nat) : Int) = mq_c (fun i => (m i : Int)) (mq_g (pr_bit w) (pz_S (gs j))) := by
  unfold ps_M
  rw [pn_s_z, ← @pz_scG (fun i => (m i : Int)) (mq_g (pr_bit w) (pz_S (gs j))) nb hb (fun i hi => by simp [hm0 i hi])]
  congr 1
  funext i
  cases mq_g (pr_bit w) (pz_S (gs j)) i <;> simp
theorem ps_d_z {ng j : Nat} {gs wt : Nat → Nat} (hg : ng ≤ 3) : ((ps_d ng gs wt j : Nat) : Int) = mq_c (fun g => if g < ng then (wt g : Int) else 0) (pz_S (gs j)) := by
  unfold ps_d
  rw [pn_s_z, ← @pz_scG (fun g => if g < ng then (wt g : Int) else 0) (pz_S (gs j)) ng hg (fun i hi => if_neg (by omega))]
  have : ∀ n, n ≤ ng → pz_s (fun g => ((if pz_S (gs j) g = true then wt g else 0 : Nat) : Int)) n = pz_s (fun g => bif pz_S (gs j) g then (if g < ng then (wt g : Int) else 0) else 0) n := fun n => by
    induction n with
    | zero => intro _; rfl
    | succ n ih =>
      intro hn
      rw [pz_s, pz_s, ih (by omega)]
      cases pz_S (gs j) n <;> simp [show n < ng by omega]
  exact this ng (Nat.le_refl _)
theorem ps_exch {m x : Nat → Int} {b : Nat → Nat → Bool} : mq_c m (fun i => b i 0) * x 0 + mq_c m (fun i => b i 1) * x 1 + mq_c m (fun i => b i 2) * x 2 = m 0 * mq_c x (b 0) + m 1 * mq_c x (b 1) + m 2 * mq_c x (b 2) := by
  have e : ∀ (s : Bool) (y z : Int), (bif s then y else 0) * z = y * (bif s then z else 0) := fun s y z => by cases s <;> simp
  unfold mq_c
  simp only [Int.add_mul, Int.mul_add, e]
  omega
theorem ps_group {nb ng w : Nat} {v : Nat → Nat → Nat} {sgr : Nat → Int32} {swe : Nat → Int64} {gs wt : Nat → Nat} (hg : ng ≤ 3) (hS : sg_St nb ng v w nb sgr swe gs wt) (hbit : ∀ i j, i < nb → j < 3 → pr_bit w i j = true → j < ng ∧ 0 < v i j) (hne : ∀ i, i < nb → pz_w w i ≠ 0) {i j : Nat} (hi : i < nb) (hj : j < ng) :
    sg_f (pz_w w i) < ng ∧ mq_g (pr_bit w) (pz_S (gs j)) i = pz_S (gs (sg_f (pz_w w i))) j := by
  obtain ⟨-, hI, hr, -⟩ := hS
  have q1 := (sg_f_in (pz_w w i) pz_w_lt (hne i hi)).1
  have hf := (hbit i _ hi sg_f_lt q1).1
  refine ⟨hf, ?_⟩
  generalize hff : sg_f (pz_w w i) = f at *
  rw [Bool.eq_iff_iff]
  constructor
  · intro h
    obtain ⟨x, x1, x2, x3⟩ := mq_g_ex h
    have hx := (hbit i x hi x1 x3).1
    have e1 := ((hI j hj).2.2.1 x x1 x2).2
    have e2 := hr i x hi hx x3
    rw [hff] at e2
    have := (hI j hj).2.1
    rw [← e1, e2] at this; exact this
  · intro h
    have e1 := ((hI f hf).2.2.1 j (by omega) h).2
    refine mq_g_in (show f < 3 by omega) ?_ q1
    rw [e1]; exact (hI f hf).2.1
/-- all prices together are all the money -/
theorem ps_sum {nb ng w : Nat} {m : Nat → Nat} {v : Nat → Nat → Nat} {sgr : Nat → Int32} {swe : Nat → Int64} {gs wt : Nat → Nat} (hA : pm_A nb ng m v) (hS : sg_St nb ng v w nb sgr swe gs wt) (hbit : ∀ i j, i < nb → j < 3 → pr_bit w i j = true → j < ng ∧ 0 < v i j) (hne : ∀ i, i < nb → pz_w w i ≠ 0) {t : Nat → Int} {U : Int} (ht : ∀ j, j < ng → t j * (ps_d ng gs wt j : Nat) = U) (hd : ∀ j, j < ng → 0 < ps_d ng gs wt j) :
    mq_s (fun j => if j < ng then (ps_M nb m w gs j : Nat) * (wt j : Int) * t j else 0) = U * mq_s (fun i => (m i : Int)) := by
  obtain ⟨hb, hg, hm1, hm0, hv9, hv0⟩ := hA
  have hS' := hS
  obtain ⟨-, hI, hr, -⟩ := hS
  have e1 : ∀ j, (fun j => if j < ng then (ps_M nb m w gs j : Nat) * (wt j : Int) * t j else 0) j = mq_c (fun i => (m i : Int)) (fun i => mq_g (pr_bit w) (pz_S (gs j)) i) * (if j < ng then (wt j : Int) * t j else 0) := fun j => by
    by_cases h : j < ng
    · simp only [if_pos h]; rw [ps_M_z hb hm0, Int.mul_assoc]
    · simp only [if_neg h, Int.mul_zero]
  have e2 : mq_s (fun j => if j < ng then (ps_M nb m w gs j : Nat) * (wt j : Int) * t j else 0) = (m 0 : Int) * mq_c (fun j => if j < ng then (wt j : Int) * t j else 0) (fun j => mq_g (pr_bit w) (pz_S (gs j)) 0) + (m 1 : Int) * mq_c (fun j => if j < ng then (wt j : Int) * t j else 0) (fun j => mq_g (pr_bit w) (pz_S (gs j)) 1) + (m 2 : Int) * mq_c (fun j => if j < ng then (wt j : Int) * t j else 0) (fun j => mq_g (pr_bit w) (pz_S (gs j)) 2) := by
    rw [← @ps_exch (fun i => (m i : Int)) (fun j => if j < ng then (wt j : Int) * t j else 0) (fun i j => mq_g (pr_bit w) (pz_S (gs j)) i)]
    show _ + _ + _ = _
    rw [e1 0, e1 1, e1 2]
  have e3 : ∀ i, i < 3 → (m i : Int) * mq_c (fun j => if j < ng then (wt j : Int) * t j else 0) (fun j => mq_g (pr_bit w) (pz_S (gs j)) i) = U * m i := fun i hi => by
    by_cases hin : i < nb
    · obtain ⟨q1, -⟩ := @ps_group nb ng w v sgr swe gs wt hg hS' hbit hne i 0 hin
        (by
          have q1 := (sg_f_in (pz_w w i) pz_w_lt (hne i hin)).1
          have := (hbit i _ hin sg_f_lt q1).1
          omega)
      have q2 := fun j hj => (@ps_group nb ng w v sgr swe gs wt hg hS' hbit hne i j hin hj).2
      generalize sg_f (pz_w w i) = f at *
      have hg2 : mq_c (fun j => if j < ng then (wt j : Int) * t j else 0) (fun j => mq_g (pr_bit w) (pz_S (gs j)) i) = mq_c (fun j => t f * (if j < ng then (wt j : Int) else 0)) (pz_S (gs f)) := by
        have term : ∀ j, (bif mq_g (pr_bit w) (pz_S (gs j)) i then (if j < ng then (wt j : Int) * t j else 0) else 0) = (bif pz_S (gs f) j then t f * (if j < ng then (wt j : Int) else 0) else 0) := fun j => by
          by_cases h : j < ng
          · rw [q2 j h]
            cases hp : pz_S (gs f) j
            · rfl
            · simp only [cond_true, if_pos h]
              have eg := ((hI f q1).2.2.1 j (by omega) hp).2
              have ed : ps_d ng gs wt j = ps_d ng gs wt f := by unfold ps_d; rw [eg]
              have h1 := ht j h
              have h2 := ht f q1
              rw [ed] at h1
              have h3 : t j = t f := Int.eq_of_mul_eq_mul_right (by have := hd f q1; omega) (h1.trans h2.symm)
              rw [h3, Int.mul_comm]
          · simp only [if_neg h, Int.mul_zero]
            cases mq_g (pr_bit w) (pz_S (gs j)) i <;> cases pz_S (gs f) j <;> rfl
        unfold mq_c
        rw [term 0, term 1, term 2]
      rw [hg2, mq_ck, ← ps_d_z hg, ht f q1, Int.mul_comm]
    · rw [hm0 i (by omega)]; simp
  rw [e2, e3 0 (by omega), e3 1 (by omega), e3 2 (by omega)]
  unfold mq_s
  rw [Int.mul_add, Int.mul_add]
theorem ps_share {nb ng w : Nat} {m : Nat → Nat} {v : Nat → Nat → Nat} {V : Int} {c : Nat → Int} {sgr : Nat → Int32} {swe : Nat → Int64} {gs wt : Nat → Nat} (hA : pm_A nb ng m v) (hF : mq_F nb ng (fun i j => v i j) (fun i => m i) V c) (hL : ∀ i j, pr_bit w i j = true → mq_L nb ng (fun i j => v i j) c i j = true) (hH : mq_H (pr_bit w) (fun i => V * m i) c)
    (hS : sg_St nb ng v w nb sgr swe gs wt) (hc : ∀ x y, x < ng → y < ng → gs x = gs y → (wt x : Int) * c y = wt y * c x) {j : Nat} (hj : j < ng) : (wt j : Int) * (V * (ps_M nb m w gs j : Nat)) = c j * (ps_d ng gs wt j : Nat) := by
  obtain ⟨hV, d1, d2, d3, d4⟩ := hF
  have hg := hA.2.1
  obtain ⟨-, hI, hr, -⟩ := hS
  have hall := @pf_hall (pr_bit w) (fun i => V * (m i : Int)) c (pz_S (gs j)) hH (by rw [d4]; exact mq_sk.symm) (fun i _ => Int.mul_nonneg (Int.le_of_lt hV) (by omega)) (fun i hi => by
    rintro ⟨h1, h2⟩
    obtain ⟨x, x1, x2, x3⟩ := mq_g_ex h1
    obtain ⟨y, y1, y2, y3⟩ := mq_g_ex h2
    have l1 := mq_L_iff.mp (hL i x x3)
    have l2 := mq_L_iff.mp (hL i y y3)
    have q1 := hr i x l1.1 l1.2.1 x3
    have q2 := hr i y l2.1 l2.2.1 y3
    have q3 := ((hI j hj).2.2.1 x x1 x2).2
    have q4 := (hI y l2.2.1).2.1
    rw [q2, ← q1, q3] at q4
    rw [q4] at y2; cases y2)
  rw [ps_M_z hA.1 hA.2.2.2.1, ← mq_ck, ← hall, ps_d_z hg, ← mq_ck, ← mq_ck]
  have e : ∀ x, (bif pz_S (gs j) x then (wt j : Int) * c x else 0) = (bif pz_S (gs j) x then c j * (if x < ng then (wt x : Int) else 0) else 0) := fun x => by
    cases q : pz_S (gs j) x
    · rfl
    · simp only [cond_true]
      by_cases h : x < ng
      · rw [if_pos h, hc j x hj h ((hI j hj).2.2.1 x (by omega) q).2.symm, Int.mul_comm]
      · rw [if_neg h, d2 x (by omega)]; simp
  unfold mq_c
  rw [e 0, e 1, e 2]
/-! Pure part 28: Search's finds. -/
theorem pd_ftd {nb ng : Nat} {m : Nat → Nat} {v : Nat → Nat → Nat} {U : Int} {c : Nat → Int} {dun : Int64} {dco dfu : Nat → Int64} {dli : Nat → Int32} (hA : pm_A nb ng m v) (hR : pm_rdy nb ng v) (hc : ∀ j, j < ng → dco j = pz (c j)) (hf : ∀ i, i < nb → dfu i = pz (U * m i)) (hl : ∀ i, i < nb → dli i = nI (pd_l ng v c i)) (hc1 : ∀ j, j < ng → 0 < c j ∧ c j ≤ 1000000000000000) (hc0 : ∀ j, ng ≤ j → c j = 0) (hU : 0 < U ∧ U ≤ 1000000000000000) :
    f_D_firstTooDear (nI nb) (nI ng) dun dco dfu dli = some ((pz_fst (fun s => decide (mq_c (fun i => U * m i) (mq_g (mq_L nb ng (fun i j => v i j) c) (pz_S s)) < mq_c c (pz_S s))) (2 ^ ng - 1) 1).elim 0 nI) := by
  obtain ⟨hb, hg, hm1, hm0, hv9, hv0⟩ := hA
  obtain ⟨-, hg0, hr1, hr2⟩ := hR
  have hf0 : ∀ i, nb ≤ i → (fun i => U * (m i : Int)) i = 0 := fun i hi => by simp [hm0 i hi]
  have e1 : ∀ s, pz_s (fun j => bif pz_S s j then c j else 0) ng = mq_c c (pz_S s) := fun s => pz_scG hg hc0
  have e2 : ∀ s, pz_s (fun i => bif mq_g (fun i => pz_S (pd_l ng v c i)) (pz_S s) i then (fun i => U * (m i : Int)) i else 0) nb = mq_c (fun i => U * (m i : Int)) (mq_g (mq_L nb ng (fun i j => v i j) c) (pz_S s)) := fun s => by
    rw [pz_scG hb hf0]
    refine mq_c_congr (fun a ha => ?_)
    by_cases h : a < nb
    · right
      exact mq_g_congrL (fun b hb' => pd_l_eq hg h hb' (fun j hj => (hc1 j hj).1) (hr1 a h))
    · left; exact hf0 a (by omega)
  have b1 : ∀ s, pz_R (mq_c c (pz_S s)) := fun s => by
    have := @pz_c_b c (pz_S s) 1000000000000000 (fun a _ => by
      by_cases h : a < ng
      · have := hc1 a h; omega
      · rw [hc0 a (by omega)]; omega)
    constructor <;> omega
  have b2 : ∀ S, pz_R (mq_c (fun i => U * (m i : Int)) S) := fun S => by
    have := @pz_c_b (fun i => U * (m i : Int)) S (1000000000000000 * 20) (fun a _ => by
      have hm : (m a : Int) ≤ 20 := by
        by_cases h : a < nb
        · have := (hm1 a h).2; omega
        · rw [hm0 a (by omega)]; omega
      exact ⟨Int.mul_nonneg (by omega) (by omega), Int.mul_le_mul hU.2 hm (by omega) (by omega)⟩)
    constructor <;> omega
  rw [pd_firstTooDear hb hg hc (f := fun i => U * (m i : Int)) hf hl (fun i _ => pd_l_lt hg) (fun s _ => by rw [e1, e2]; exact ⟨b1 s, b2 _⟩)]
  congr 2
  refine pz_fst_congr (fun s _ _ => ?_)
  rw [e1, e2]
/-- Demand's numbers after a look at prices a / d -/
def pd_Lk (nb ng : Nat) (m : Nat → Nat) (v : Nat → Nat → Nat) (a d : Nat → Int) (dbu dgo : Int32) (dun : Int64) (dco dfu : Nat → Int64) (dli : Nat → Int32) : Prop :=
  dbu = nI nb ∧ dgo = nI ng ∧ dun = pz (pd_U d ng) ∧ (∀ j, j < ng → dco j = pz (pd_c a d ng j)) ∧ (∀ i, i < nb → dfu i = pz (pd_U d ng * m i)) ∧ (∀ i, i < nb → dli i = nI (pd_l ng v (pd_c a d ng) i))
def ps_Ok (nb ng : Nat) (m : Nat → Nat) (v : Nat → Nat → Nat) (a d : Nat → Int) : Prop :=
  mq_F nb ng (fun i j => v i j) (fun i => m i) (pd_U d ng) (pd_c a d ng) ∧ (∀ j, j < ng → 1 ≤ d j ∧ d j ≤ 243 ∧ 1 ≤ a j ∧ a j ≤ 4860)
theorem ps_finds {nb ng : Nat} {m : Nat → Nat} {v : Nat → Nat → Nat} {mso dbu dgo : Int32} {mun dun : Int64} {mpu mwo sgr dli : Nat → Int32} {swe dco dfu pab pbe : Nat → Int64} (hA : pm_A nb ng m v) (hR : pm_rdy nb ng v) (hm : ∀ i, i < nb → mpu i = nI (m i)) (hv : ∀ i j, i < nb → j < ng → mwo (3 * i + j) = nI (v i j)) :
    ∃ sgr' swe' dbu' dgo' dun' dco' dfu' dli' pab' pbe', f_S_finds sgr swe (nI nb) (nI ng) mpu mwo mso mun dbu dgo dun dco dfu dli pab pbe = some (1, sgr', swe', dbu', dgo', dun', dco', dfu', dli', pab', pbe') ∧ ∃ a d, ps_Ok nb ng m v a d ∧ pd_Lk nb ng m v a d dbu' dgo' dun' dco' dfu' dli' ∧ (∀ j, j < ng → pab' j = pz (a j) ∧ pbe' j = pz (d j)) := by
  obtain ⟨W, V, cV, hW, hWn, hF, hL, hH, h4, h6⟩ := pf_way hA hR
  have hA' := hA
  have hR' := hR
  obtain ⟨hb, hg, hm1, hm0, hv9, hv0⟩ := hA
  obtain ⟨hb0, hg0, hr1, hr2⟩ := hR
  have h8 := pr_p8 nb hb
  have hm' : ∀ i, i < nb → mpu i = nI (m i) ∧ m i ≤ 20 := fun i hi => ⟨hm i hi, (hm1 i hi).2⟩
  have hWb : ∀ i j, pr_bit W i j = true → i < nb ∧ j < ng ∧ 0 < v i j := fun i j h => by
    have := mq_L_iff.mp (hL i j h)
    exact ⟨this.1, this.2.1, by have := this.2.2.1; omega⟩
  have hWF : pr_F nb ng v W (fun x => if x < ng then (cV x).toNat else 1) := by
    obtain ⟨hV, d1, d2, d3, d4⟩ := hF
    refine ⟨fun x hx => ?_, fun i hi => ⟨?_, fun j hj hbit => ⟨(hWb i j hbit).2.1, (hWb i j hbit).2.2⟩, fun j k hj hk b1 b2 => ?_⟩⟩
    · simp only
      split
      · rename_i q; have := d1 x q; omega
      · omega
    · obtain ⟨j, j1, j2⟩ := @pf_row nb (pr_bit W) m V cV hV hH d4 i (by omega) (by have := (hm1 i hi).1; omega)
      exact ⟨j, (hWb i j j2).2.1, j2⟩
    · have l1 := (mq_L_iff.mp (hL i j b1)).2.2.2 k hk
      have l2 := (mq_L_iff.mp (hL i k b2)).2.2.2 j hj
      simp only [if_pos hj, if_pos hk]
      have e1 : (((cV k).toNat : Nat) : Int) = cV k := Int.toNat_of_nonneg (Int.le_of_lt (d1 k hk))
      have e2 : (((cV j).toNat : Nat) : Int) = cV j := Int.toNat_of_nonneg (Int.le_of_lt (d1 j hj))
      have : ((v i j * (cV k).toNat : Nat) : Int) = ((v i k * (cV j).toNat : Nat) : Int) := by
        rw [Int.natCast_mul, Int.natCast_mul, e1, e2]; exact Int.le_antisymm l2 l1
      omega
  have hAlt : ps_A ng v nb < 512 := Nat.lt_of_lt_of_le (ps_A_lt hg) h8
  have main : ∃ x, gq_it 1000000 (fb_S_finds_18 (nI nb) (nI ng) mpu mwo mso mun (nI (ps_A ng v nb))) (0, sgr, swe, dbu, dgo, dun, dco, dfu, dli, pab, pbe) = some x ∧ gq_e (fun y => ∃ a d, ps_Ok nb ng m v a d ∧ pd_Lk nb ng m v a d y.2.2.1 y.2.2.2.1 y.2.2.2.2.1 y.2.2.2.2.2.1 y.2.2.2.2.2.2.1 y.2.2.2.2.2.2.2.1 ∧ (∀ j, j < ng → y.2.2.2.2.2.2.2.2.1 j = pz (a j) ∧ y.2.2.2.2.2.2.2.2.2 j = pz (d j))) (fun _ => False) x := by
    refine pz_invF (fun k z => z.1 = nI k ∧ k ≤ W) 0 (8 ^ nb) (by omega) (by omega) ⟨rfl, by omega⟩ (fun k z hk hz => ?_) (fun z hz => by omega)
    obtain ⟨z1, z2⟩ := hz
    have k512 : k < 512 := by omega
    simp only [fb_S_finds_18, z1, pr_sh8 nb hb, if_neg (nI_ge hk (by omega)), nI_1]
    have hsub := ps_sub k512 hAlt
    by_cases hw : ∀ i j, i < 3 → j < 3 → pr_bit k i j = true → pr_bit (ps_A ng v nb) i j = true
    · rw [if_pos (hsub.mpr hw)]
      have hbit : ∀ i j, i < nb → j < 3 → pr_bit k i j = true → j < ng ∧ 0 < v i j := fun i j hi hj hbt => by
        have := hw i j (by omega) hj hbt
        rw [ps_A_bit hb hg hv0 (by omega) hj, decide_eq_true_iff] at this
        refine ⟨?_, this⟩
        rcases Nat.lt_or_ge j ng with q | q
        · exact q
        · rw [hv0 i j (Or.inr q)] at this; omega
      obtain ⟨fl, c1, c2⟩ := @ps_coversAll nb ng k mso mun mpu mwo hb hg k512
      rw [c1, Option.bind_some]
      cases fl
      · rw [if_pos (show pz_B false = 0 from rfl)]
        refine Or.inl ⟨_, rfl, rfl, ?_⟩
        rcases Nat.lt_or_ge k W with q | q
        · exact q
        · exfalso
          have e : k = W := by omega
          subst e
          have : false = true := c2.mpr ⟨fun i hi => ?_, fun j hj => ⟨?_, fun hjn => ?_⟩⟩
          · cases this
          · obtain ⟨⟨j, j1, j2⟩, -⟩ := hWF.2 i hi
            exact (sg_ne0 (pz_w k i) pz_w_lt).mpr ⟨j, by omega, j2⟩
          · rintro ⟨i, i1, i2⟩; exact (hWb i j i2).2.1
          · cases q : mq_g (pr_bit k) (fun x => decide (x = j)) 0 || mq_g (pr_bit k) (fun x => decide (x = j)) 1 || mq_g (pr_bit k) (fun x => decide (x = j)) 2
            · exfalso
              simp only [Bool.or_eq_false_iff] at q
              have hh := hH (fun x => decide (x = j))
              have h0 : mq_c (fun i => V * (m i : Int)) (mq_g (pr_bit k) (fun x => decide (x = j))) = 0 := by
                unfold mq_c; rw [q.1.1, q.1.2, q.2]; rfl
              have h1 : mq_c cV (fun x => decide (x = j)) = cV j := by
                unfold mq_c
                rcases (by omega : j = 0 ∨ j = 1 ∨ j = 2) with rfl | rfl | rfl <;> simp
              have := hF.2.1 j hjn
              omega
            · have key : ∀ i, mq_g (pr_bit k) (fun x => decide (x = j)) i = true → ∃ i, i < nb ∧ pr_bit k i j = true := fun i h => by
                obtain ⟨x, x1, x2, x3⟩ := mq_g_ex h
                rw [decide_eq_true_iff] at x2
                subst x2
                exact ⟨i, (hWb i x x3).1, x3⟩
              simp only [Bool.or_eq_true] at q
              rcases q with (q | q) | q
              · exact key 0 q
              · exact key 1 q
              · exact key 2 q
      · rw [if_neg (show ¬ pz_B true = 0 by decide)]
        obtain ⟨cn, cc⟩ := c2.mp rfl
        obtain ⟨fl2, sgr', swe', l1, l2, l3⟩ := @ps_linksAll nb ng k mso mun mpu mwo z.2.1 z.2.2.1 v hb hg hv hv9 k512 cn hbit
        simp only [l1, Option.bind_some]
        cases fl2
        · rw [if_pos (show pz_B false = 0 from rfl)]
          refine Or.inl ⟨_, rfl, rfl, ?_⟩
          rcases Nat.lt_or_ge k W with q | q
          · exact q
          · exfalso
            have e : k = W := by omega
            subst e
            have := l3 (sg_noring k hW (sg_ring_of h4 h6))
            cases this
        · rw [if_neg (show ¬ pz_B true = 0 by decide)]
          obtain ⟨gs, wt, hS⟩ := l2 rfl
          have hS' := hS
          obtain ⟨hSR, hSI, hSr, hSc⟩ := hS
          simp only [ps_tellPrices hb hg k512 hm' hSR hSI, Option.bind_some]
          generalize ha : (fun j => ((ps_M nb m k gs j * wt j : Nat) : Int)) = a at *
          generalize hd : (fun j => ((ps_d ng gs wt j : Nat) : Int)) = d at *
          have haj : ∀ j, a j = ((ps_M nb m k gs j * wt j : Nat) : Int) := fun j => by rw [← ha]
          have hdj : ∀ j, d j = ((ps_d ng gs wt j : Nat) : Int) := fun j => by rw [← hd]
          have hdb : ∀ j, j < ng → 1 ≤ ps_d ng gs wt j ∧ ps_d ng gs wt j ≤ 243 := fun j hj => by
            constructor
            · have := @pn_s_ge (fun g => if pz_S (gs j) g = true then wt g else 0) j ng hj
              simp only [(hSI j hj).2.1, if_true] at this
              have := (hSI j hj).2.2.2.1
              unfold ps_d; omega
            · have := @pn_s_le (fun g => if pz_S (gs j) g = true then wt g else 0) 81 ng (fun x hx => by
                have := sg_81 hg hSI hx
                split <;> omega)
              unfold ps_d
              have : ng * 81 ≤ 243 := by omega
              omega
          have hMb : ∀ j, j < ng → 1 ≤ ps_M nb m k gs j ∧ ps_M nb m k gs j ≤ 60 := fun j hj => by
            constructor
            · obtain ⟨i, i1, i2⟩ := (cc j (by omega)).mpr hj
              have := @pn_s_ge (fun i => if mq_g (pr_bit k) (pz_S (gs j)) i = true then m i else 0) i nb i1
              have hgi : mq_g (pr_bit k) (pz_S (gs j)) i = true := mq_g_in (show j < 3 by omega) (hSI j hj).2.1 i2
              simp only [hgi, if_true] at this
              have := (hm1 i i1).1
              unfold ps_M; omega
            · have := @pn_s_le (fun i => if mq_g (pr_bit k) (pz_S (gs j)) i = true then m i else 0) 20 nb (fun x hx => by
                have := (hm1 x hx).2
                split <;> omega)
              unfold ps_M
              have : nb * 20 ≤ 60 := by omega
              omega
          have hab : ∀ j, j < ng → 1 ≤ d j ∧ d j ≤ 243 ∧ 1 ≤ a j ∧ a j ≤ 4860 := fun j hj => by
            have h1 := hdb j hj
            have h2 := hMb j hj
            have h3 := sg_81 hg hSI hj
            have h4 := (hSI j hj).2.2.2.1
            have h5 : ps_M nb m k gs j * wt j ≤ 60 * 81 := Nat.mul_le_mul h2.2 h3
            have h6 : 1 ≤ ps_M nb m k gs j * wt j := Nat.mul_pos (by omega) h4
            rw [haj, hdj]; omega
          have hpr : ∀ j, j < ng → 1 ≤ pd_pr d j ng ∧ pd_pr d j ng ≤ 243 * 243 := fun j hj => pd_pr_c (by omega) hg hj (fun x hx => ⟨(hab x hx).1, (hab x hx).2.1⟩)
          have hUb := @pd_pr_b d 3 243 (by omega) ng (fun x hx => ⟨(hab x hx).1, (hab x hx).2.1⟩)
          have hU3 : (243 : Int) ^ ng ≤ 14348907 := by
            rcases (by omega : ng = 1 ∨ ng = 2 ∨ ng = 3) with rfl | rfl | rfl <;> decide
          have hU1 : 1 ≤ pd_U d ng ∧ pd_U d ng ≤ 14348907 := by unfold pd_U; omega
          have hcb : ∀ j, j < ng → 0 < pd_c a d ng j ∧ pd_c a d ng j ≤ 286978140 := fun j hj => by
            have h1 := hab j hj
            have h2 := hpr j hj
            unfold pd_c
            rw [if_pos hj]
            refine ⟨Int.mul_pos (by omega) (by omega), ?_⟩
            exact Int.mul_le_mul h1.2.2.2 h2.2 (by omega) (by omega)
          have hc0 : ∀ j, ng ≤ j → pd_c a d ng j = 0 := fun j hj => by unfold pd_c; rw [if_neg (by omega)]
          have hlook := @pd_look nb ng z.2.2.2.2.2.1 mun z.2.2.2.1 z.2.2.2.2.1 mso z.2.2.2.2.2.2.1 z.2.2.2.2.2.2.2.1 (fun j => if j < ng then pz ((ps_M nb m k gs j * wt j : Nat) : Int) else z.2.2.2.2.2.2.2.2.2.1 j) (fun j => if j < ng then pz (ps_d ng gs wt j) else z.2.2.2.2.2.2.2.2.2.2 j) z.2.2.2.2.2.2.2.2.1 mpu mwo m v a d hA' hg0 hm hv (fun j hj => by rw [haj]; exact if_pos hj) (fun j hj => by rw [hdj]; exact if_pos hj) (fun j hj => by have := hcb j hj; omega)
          simp only [hlook, Option.bind_some]
          have hftd := @pd_ftd nb ng m v (pd_U d ng) (pd_c a d ng) (pz (pd_U d ng)) (fun j => if j < ng then pz (pd_c a d ng j) else z.2.2.2.2.2.2.1 j) (fun i => if i < nb then pz (pd_U d ng * m i) else z.2.2.2.2.2.2.2.1 i) (fun i => if i < nb then nI (pd_l ng v (pd_c a d ng) i) else z.2.2.2.2.2.2.2.2.1 i) hA' hR' (fun j hj => if_pos hj) (fun i hi => if_pos hi) (fun i hi => if_pos hi) (fun j hj => by have := hcb j hj; omega) hc0 (by omega)
          simp only [hftd, Option.bind_some]
          have hHi := @pf_fst ng (mq_L nb ng (fun i j => (v i j : Int)) (pd_c a d ng)) (fun i => pd_U d ng * (m i : Int)) (pd_c a d ng) hg hc0 mq_L_0g (fun i _ => Int.mul_nonneg (by omega) (by omega))
          have hcj : ∀ j, j < ng → pd_c a d ng j = (ps_M nb m k gs j : Nat) * (wt j : Int) * pd_pr d j ng := fun j hj => by
            unfold pd_c; rw [if_pos hj, haj, Int.natCast_mul]
          have htj : ∀ j, j < ng → pd_pr d j ng * (ps_d ng gs wt j : Nat) = pd_U d ng := fun j hj => by
            rw [← hdj]; exact pd_pr_mul hg hj
          have hsum : mq_s (pd_c a d ng) = pd_U d ng * mq_s (fun i => (m i : Int)) := by
            rw [← @ps_sum nb ng k m v sgr' swe' gs wt hA' hS' hbit cn (fun j => pd_pr d j ng) (pd_U d ng) htj (fun j hj => by have := hdb j hj; omega)]
            congr 1
            funext j
            by_cases h : j < ng
            · rw [if_pos h, hcj j h]
            · rw [if_neg h, hc0 j (by omega)]
          have hFc : k = W → mq_F nb ng (fun i j => (v i j : Int)) (fun i => (m i : Int)) (pd_U d ng) (pd_c a d ng) := fun e => by
            subst e
            refine mq_F_scale hF (by omega) (fun j => ?_)
            by_cases hj : j < ng
            · have hgc := hSc _ hWF
              have hsh := @ps_share nb ng k m v V cV sgr' swe' gs wt hA' hF hL hH hS' (fun x y hx hy hxy => by
                have := hgc x y hx hy hxy
                simp only [if_pos hx, if_pos hy] at this
                have e1 : (((cV x).toNat : Nat) : Int) = cV x := Int.toNat_of_nonneg (Int.le_of_lt (hF.2.1 x hx))
                have e2 : (((cV y).toNat : Nat) : Int) = cV y := Int.toNat_of_nonneg (Int.le_of_lt (hF.2.1 y hy))
                rw [← e1, ← e2, ← Int.natCast_mul, ← Int.natCast_mul, this]) j hj
              rw [hcj j hj, ← htj j hj]
              calc (ps_M nb m k gs j : Int) * (wt j : Int) * pd_pr d j ng * V = ((wt j : Int) * (V * (ps_M nb m k gs j : Nat))) * pd_pr d j ng := by simp only [Int.mul_comm, Int.mul_left_comm, Int.mul_assoc]
                _ = (cV j * (ps_d ng gs wt j : Nat)) * pd_pr d j ng := by rw [hsh]
                _ = _ := by simp only [Int.mul_comm, Int.mul_left_comm, Int.mul_assoc]
            · rw [hc0 j (by omega), hF.2.2.1 j (by omega)]; simp
          by_cases h0 : (pz_fst (fun s => decide (mq_c (fun i => pd_U d ng * (m i : Int)) (mq_g (mq_L nb ng (fun i j => (v i j : Int)) (pd_c a d ng)) (pz_S s)) < mq_c (pd_c a d ng) (pz_S s))) (2 ^ ng - 1) 1).elim 0 nI = (0 : Int32)
          · rw [if_pos h0]
            refine Or.inr ⟨_, rfl, a, d, ⟨⟨by omega, fun j hj => (hcb j hj).1, hc0, hHi.mp h0, hsum⟩, hab⟩, ⟨rfl, rfl, rfl, fun j hj => if_pos hj, fun i hi => if_pos hi, fun i hi => if_pos hi⟩, fun j hj => ⟨?_, ?_⟩⟩
            · rw [haj]; exact if_pos hj
            · rw [hdj]; exact if_pos hj
          · rw [if_neg h0]
            refine Or.inl ⟨_, rfl, rfl, ?_⟩
            rcases Nat.lt_or_ge k W with q | q
            · exact q
            · exfalso
              exact h0 (hHi.mpr (hFc (by omega)).2.2.2.1)
    · rw [if_neg (fun q => hw (hsub.mp q))]
      refine Or.inl ⟨_, rfl, rfl, ?_⟩
      rcases Nat.lt_or_ge k W with q | q
      · exact q
      · exfalso
        have e : k = W := by omega
        subst e
        refine hw (fun i j hi hj hbt => ?_)
        rw [ps_A_bit hb hg hv0 hi hj, decide_eq_true_iff]
        exact (hWb i j hbt).2.2
  obtain ⟨x, x1, x2⟩ := main
  unfold f_S_finds
  rw [ps_wantedByAll hb hg hv hv9, Option.bind_some, x1, Option.bind_some]
  cases x with
  | inl u => exact ⟨_, _, _, _, _, _, _, _, _, _, rfl, x2⟩
  | inr u => exact x2.elim
