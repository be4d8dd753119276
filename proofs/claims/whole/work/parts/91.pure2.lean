/-! Pure part 14: the reference's division. -/
def pz_B (b : Bool) : Int32 := if b = true then 1 else 0
theorem pz_B0 {b : Bool} : pz_B b = 0 ↔ b = false := by cases b <;> decide
theorem pz_B1 {b : Bool} : pz_B b = 1 ↔ b = true := by cases b <;> decide
theorem pz_Bzo {α : Type} {b : Bool} {k : Option α} : gq_zo (pz_B b) k = k := by
  unfold gq_zo; cases b <;> rfl
theorem pz_nar0 : vp_nar .boolean 0 = 0 := rfl
theorem pz_nar1 : vp_nar .boolean 1 = 1 := rfl
theorem pz_cell2 {i j : Nat} : 3 * nI i + nI j = nI (3 * i + j) := by
  rw [pz_i3, pk_mul, nI_add]
theorem pz_row {i j : Nat} : 6 + 3 * nI i + nI j = nI (6 + 3 * i + j) := by
  rw [show (6 : Int32) = nI 6 from rfl, pz_i3, pk_mul, nI_add, nI_add]
theorem pz_row3 {i : Nat} : 3 + nI i = nI (3 + i) := by
  rw [pz_i3, nI_add]
theorem pz_d3 {k : Nat} (h : k < 2 ^ 31) : nI k / 3 = nI (k / 3) := by
  rw [pz_i3]; exact pk_div h (by omega) (by omega)
theorem pz_r3 {k : Nat} (h : k < 2 ^ 31) : nI k - nI (k / 3) * 3 = nI (k % 3) := by
  rw [pz_i3, ← pk_rem h (show 0 < 3 by omega) (by omega), pk_div h (by omega) (by omega)]
def pm_R (nb ng : Nat) (m : Nat → Nat) (v : Nat → Nat → Nat) (vno : Nat → Int32) : Prop :=
  vno 0 = nI nb ∧ vno 1 = nI ng ∧ (∀ i, i < nb → vno (3 + i) = nI (m i)) ∧ (∀ i j, i < nb → j < ng → vno (6 + 3 * i + j) = nI (v i j))
theorem pr_buyers {rth rps : Int32} {rln : Int64} {vno vpa : Nat → Int32} {vpr vsp : Nat → Int64} {vli vop : Nat → Int32} {vpu vre vpt : Nat → Int64} {vgr vab vbe : Nat → Int32} {n : Nat} (h : vno 0 = nI n) : f_R_buyers rth rps rln vno vpa vpr vsp vli vop vpu vre vpt vgr vab vbe = some (nI n) := by
  unfold f_R_buyers
  rw [show (0 : Int32) = nI 0 from rfl, pz_g (show 0 < 15 by omega), pz_c (n := 0), h]
theorem pr_goods {rth rps : Int32} {rln : Int64} {vno vpa : Nat → Int32} {vpr vsp : Nat → Int64} {vli vop : Nat → Int32} {vpu vre vpt : Nat → Int64} {vgr vab vbe : Nat → Int32} {n : Nat} (h : vno 1 = nI n) : f_R_goods rth rps rln vno vpa vpr vsp vli vop vpu vre vpt vgr vab vbe = some (nI n) := by
  unfold f_R_goods
  rw [show (1 : Int32) = nI 1 from rfl, pz_g (show 1 < 15 by omega), pz_c (n := 1), h]
theorem pr_purseOf {rth rps : Int32} {rln : Int64} {vno vpa : Nat → Int32} {vpr vsp : Nat → Int64} {vli vop : Nat → Int32} {vpu vre vpt : Nat → Int64} {vgr vab vbe : Nat → Int32} {n i : Nat} (hi : i < 3) (h : vno (3 + i) = nI n) : f_R_purseOf rth rps rln vno vpa vpr vsp vli vop vpu vre vpt vgr vab vbe (nI i) = some (nI n) := by
  unfold f_R_purseOf
  rw [pz_row3, pz_g (show 3 + i < 15 by omega), pz_c (n := 3 + i) (by omega), h]
theorem pr_valueOf {rth rps : Int32} {rln : Int64} {vno vpa : Nat → Int32} {vpr vsp : Nat → Int64} {vli vop : Nat → Int32} {vpu vre vpt : Nat → Int64} {vgr vab vbe : Nat → Int32} {n i j : Nat} (hi : i < 3) (hj : j < 3) (h : vno (6 + 3 * i + j) = nI n) : f_R_valueOf rth rps rln vno vpa vpr vsp vli vop vpu vre vpt vgr vab vbe (nI i) (nI j) = some (nI n) := by
  unfold f_R_valueOf
  rw [pz_row, pz_g (show 6 + 3 * i + j < 15 by omega), pz_c (n := 6 + 3 * i + j) (by omega), h]
def pz_any (P : Nat → Bool) : Nat → Bool
  | 0 => false
  | k + 1 => pz_any P k || P k
theorem pz_any_g {L : Nat → Nat → Bool} {S : Nat → Bool} {i n : Nat} (hn : n ≤ 3) (hL : ∀ j, n ≤ j → L i j = false) : pz_any (fun j => S j && L i j) n = mq_g L S i := by
  have h0 := hL 0; have h1 := hL 1; have h2 := hL 2
  rcases (by omega : n = 0 ∨ n = 1 ∨ n = 2 ∨ n = 3) with rfl | rfl | rfl | rfl <;> simp [pz_any, mq_g] <;> simp at h0 h1 h2 <;> simp [*]
theorem pr_reaches {rth rps : Int32} {rln : Int64} {vno vpa : Nat → Int32} {vpr vsp : Nat → Int64} {vli vop : Nat → Int32} {vpu vre vpt : Nat → Int64} {vgr vab vbe : Nat → Int32} {ng i s : Nat} {L : Nat → Nat → Bool} (hg : ng ≤ 3) (hn : vno 1 = nI ng) (hi : i < 3) (hs : s < 8) (hL : ∀ j, j < ng → vop (3 * i + j) = pz_B (L i j)) (hL0 : ∀ j, ng ≤ j → L i j = false) :
    f_R_reaches rth rps rln vno vpa vpr vsp vli vop vpu vre vpt vgr vab vbe (nI i) (nI s) = some (pz_B (mq_g L (pz_S s) i)) := by
  have e : gq_it 1000000 (fb_R_reaches_5 rth rps rln vno vpa vpr vsp vli vop vpu vre vpt vgr vab vbe (nI i) (nI s)) (0, 0) = some (pz_B (pz_any (fun j => pz_S s j && L i j) ng)) := by
    refine pz_for (fun k => (nI k, pz_B (pz_any (fun j => pz_S s j && L i j) k))) 0 ng (by omega) (by omega) (fun k _ hk => ?_) ?_
    · simp only [fb_R_reaches_5, pr_goods hn, Option.bind_some, if_neg (pz_ge hk hg), pz_hasR (show s < 512 by omega) (show k < 9 by omega), pz_cell2, pz_g (show 3 * i + k < 9 by omega), pz_c (n := 3 * i + k) (by omega), hL k hk, pz_any, nI_1, pz_B0]
      cases pz_any (fun j => pz_S s j && L i j) k
      · cases pz_S s k
        · simp; rfl
        · cases L i k
          · simp; rfl
          · simp; rfl
      · simp; rfl
    · simp only [fb_R_reaches_5, pr_goods hn, Option.bind_some, if_pos (pz_le' (Nat.le_refl ng) hg)]
  unfold f_R_reaches
  rw [e, Option.bind_some, pz_Bzo, pz_any_g hg hL0]
theorem pr_leftFor {rth rps : Int32} {rln : Int64} {vno vpa : Nat → Int32} {vpr vsp : Nat → Int64} {vli vop : Nat → Int32} {vpu vre vpt : Nat → Int64} {vgr vab vbe : Nat → Int32} {nb ng s : Nat} {f : Nat → Int} {L : Nat → Nat → Bool} (hb : nb ≤ 3) (hg : ng ≤ 3) (hn0 : vno 0 = nI nb) (hn : vno 1 = nI ng) (hs : s < 8) (hL : ∀ i j, i < nb → j < ng → vop (3 * i + j) = pz_B (L i j)) (hL0 : ∀ i j, ng ≤ j → L i j = false) (hf : ∀ i, i < nb → vpu i = pz (f i)) (hf0 : ∀ i, nb ≤ i → f i = 0) :
    f_R_leftFor rth rps rln vno vpa vpr vsp vli vop vpu vre vpt vgr vab vbe (nI s) = some (pz (mq_c f (mq_g L (pz_S s)))) := by
  have e : gq_it 1000000 (fb_R_leftFor_5 rth rps rln vno vpa vpr vsp vli vop vpu vre vpt vgr vab vbe (nI s)) (0, 0) = some (pz (pz_s (fun i => bif mq_g L (pz_S s) i then f i else 0) nb)) := by
    refine pz_for (fun k => (nI k, pz (pz_s (fun i => bif mq_g L (pz_S s) i then f i else 0) k))) 0 nb (by omega) (by omega) (fun k _ hk => ?_) ?_
    · simp only [fb_R_leftFor_5, pr_buyers hn0, Option.bind_some, if_neg (pz_ge hk hb), pr_reaches hg hn (show k < 3 by omega) hs (fun j hj => hL k j hk hj) (hL0 k), pz_B0, pz_g (show k < 3 by omega), pz_c (n := k) (by omega), hf k hk, nI_1, pz_add, pz_s]
      cases mq_g L (pz_S s) k
      · simp
      · simp
    · simp only [fb_R_leftFor_5, pr_buyers hn0, Option.bind_some, if_pos (pz_le' (Nat.le_refl nb) hb)]
  unfold f_R_leftFor
  rw [e, Option.bind_some, pz_scG hb hf0]
theorem pr_restOf {rth rps : Int32} {rln : Int64} {vno vpa : Nat → Int32} {vpr vsp : Nat → Int64} {vli vop : Nat → Int32} {vpu vre vpt : Nat → Int64} {vgr vab vbe : Nat → Int32} {ng s : Nat} {c : Nat → Int} (hg : ng ≤ 3) (hn : vno 1 = nI ng) (hs : s < 8) (hc : ∀ j, j < ng → vre j = pz (c j)) (hc0 : ∀ j, ng ≤ j → c j = 0) :
    f_R_restOf rth rps rln vno vpa vpr vsp vli vop vpu vre vpt vgr vab vbe (nI s) = some (pz (mq_c c (pz_S s))) := by
  have e : gq_it 1000000 (fb_R_restOf_5 rth rps rln vno vpa vpr vsp vli vop vpu vre vpt vgr vab vbe (nI s)) (0, 0) = some (pz (pz_s (fun j => bif pz_S s j then c j else 0) ng)) := by
    refine pz_for (fun k => (nI k, pz (pz_s (fun j => bif pz_S s j then c j else 0) k))) 0 ng (by omega) (by omega) (fun k _ hk => ?_) ?_
    · simp only [fb_R_restOf_5, pr_goods hn, Option.bind_some, if_neg (pz_ge hk hg), pz_hasR (show s < 512 by omega) (show k < 9 by omega), pz_g (show k < 3 by omega), pz_c (n := k) (by omega), hc k hk, nI_1, pz_add, pz_s]
      cases pz_S s k
      · simp
      · simp
    · simp only [fb_R_restOf_5, pr_goods hn, Option.bind_some, if_pos (pz_le' (Nat.le_refl ng) hg)]
  unfold f_R_restOf
  rw [e, Option.bind_some, pz_scG hg hc0]
theorem pr_lt {a b : Int} {A B : Option (Int32 × Int64 ⊕ Int64)} (ha : pz_R a) (hb : pz_R b) : (if 0 ≤ lg_cmp (pz a) (pz b) then A else B) = if b ≤ a then A else B := by
  rw [pz_cmp ha hb]
  by_cases h : b ≤ a
  · rw [if_pos h]
    by_cases h2 : b < a
    · rw [if_pos h2, if_pos (by decide)]
    · rw [if_neg h2, if_pos (show a = b by omega), if_pos (by decide)]
  · rw [if_neg h, if_neg (show ¬ b < a by omega), if_neg (show ¬ a = b by omega), if_neg (by decide)]
theorem pr_mostOf {rth rps : Int32} {rln : Int64} {vno vpa : Nat → Int32} {vpr vsp : Nat → Int64} {vli vop : Nat → Int32} {vpu vre vpt : Nat → Int64} {vgr vab vbe : Nat → Int32} {nb ng i j : Nat} {f c : Nat → Int} {L : Nat → Nat → Bool} (hb : nb ≤ 3) (hg : ng ≤ 3) (hn0 : vno 0 = nI nb) (hn : vno 1 = nI ng) (hL : ∀ i j, i < nb → j < ng → vop (3 * i + j) = pz_B (L i j)) (hL0 : ∀ i j, ng ≤ j → L i j = false) (hf : ∀ i, i < nb → vpu i = pz (f i)) (hf0 : ∀ i, nb ≤ i → f i = 0) (hc : ∀ j, j < ng → vre j = pz (c j)) (hc0 : ∀ j, ng ≤ j → c j = 0)
    (hfb : ∀ a, a < 3 → 0 ≤ f a ∧ f a ≤ 1000000000000000) (hcb : ∀ a, a < 3 → 0 ≤ c a ∧ c a ≤ 1000000000000000) (hi : i < nb) (hj : j < ng) :
    f_R_mostOf rth rps rln vno vpa vpr vsp vli vop vpu vre vpt vgr vab vbe (nI i) (nI j) = some (pz (pv_m (mq_rm L i j) f c i j (2 ^ ng - 1)), upd vop (3 * i + j) 0) := by
  have hp := pz_p2 ng hg
  have hp0 : 0 < 2 ^ ng := Nat.pow_pos (by omega)
  have hRm : ∀ k, pz_R (pv_m (mq_rm L i j) f c i j k) := fun k => by
    have := @pv_m_b (mq_rm L i j) f c i j _ hfb hcb (by omega) (by omega) k
    constructor <;> omega
  have hL' : ∀ a b, a < nb → b < ng → (upd vop (3 * i + j) 0) (3 * a + b) = pz_B (mq_rm L i j a b) := fun a b ha hb' => by
    unfold upd
    by_cases e : 3 * a + b = 3 * i + j
    · have e1 : a = i := by omega
      have e2 : b = j := by omega
      subst e1 e2
      simp [mq_rm, pz_B]
    · rw [if_neg e, hL a b ha hb']
      have : ¬ (a = i ∧ b = j) := fun q => e (by rw [q.1, q.2])
      simp [mq_rm, this]
  have hL0' : ∀ a b, ng ≤ b → mq_rm L i j a b = false := fun a b h => by simp [mq_rm, hL0 a b h]
  have body : ∀ k, 1 ≤ k → k < 2 ^ ng → fb_R_mostOf_46 rth rps rln vno vpa vpr vsp vli vop vpu vre vpt vgr vab vbe (nI i) (nI j) (nI k, pz (pv_m (mq_rm L i j) f c i j (k - 1))) = some (.inl (nI (k + 1), pz (pv_m (mq_rm L i j) f c i j (k + 1 - 1)))) := fun k h1 hk => by
    have k8 : k < 8 := by omega
    obtain ⟨k', rfl⟩ : ∃ k', k = k' + 1 := ⟨k - 1, by omega⟩
    simp only [fb_R_mostOf_46, pz_cell2, pz_c (n := 3 * i + j) (by omega), pz_nar0, pr_goods hn, Option.bind_some, pz_sh ng hg, if_neg (nI_ge hk (by omega)), pz_hasR (show k' + 1 < 512 by omega) (show j < 9 by omega), pr_reaches (vop := upd vop (3 * i + j) 0) hg hn (show i < 3 by omega) k8 (fun b hb' => hL' i b hi hb') (hL0' i),
      pr_leftFor (vop := upd vop (3 * i + j) 0) hb hg hn0 hn k8 hL' hL0' hf hf0, pr_restOf hg hn k8 hc hc0, pz_B0, nI_1, pz_sub]
    have b1 := @pz_c_b f (mq_g (mq_rm L i j) (pz_S (k' + 1))) _ hfb
    have b2 := @pz_c_b c (pz_S (k' + 1)) _ hcb
    rw [show k' + 1 - 1 = k' from rfl, show k' + 1 + 1 - 1 = k' + 1 from rfl, pr_lt (by constructor <;> omega) (hRm k'), pv_m]
    cases hS : pz_S (k' + 1) j
    · simp only [Bool.false_eq_true, if_false, if_true, true_and]
      cases hG : mq_g (mq_rm L i j) (pz_S (k' + 1)) i
      · simp
      · simp only [Bool.true_eq_false, if_false, if_true]
        by_cases h : pv_m (mq_rm L i j) f c i j k' ≤ mq_c f (mq_g (mq_rm L i j) (pz_S (k' + 1))) - mq_c c (pz_S (k' + 1))
        · rw [if_pos h, Int.min_eq_left h]
        · rw [if_neg h, Int.min_eq_right (by omega)]
    · simp
  have fin : fb_R_mostOf_46 rth rps rln vno vpa vpr vsp vli vop vpu vre vpt vgr vab vbe (nI i) (nI j) (nI (2 ^ ng), pz (pv_m (mq_rm L i j) f c i j (2 ^ ng - 1))) = some (.inr (pz (pv_m (mq_rm L i j) f c i j (2 ^ ng - 1)))) := by
    simp only [fb_R_mostOf_46, pr_goods hn, Option.bind_some, pz_sh ng hg, if_pos (nI_le (Nat.le_refl (2 ^ ng)) (by omega))]
  have e2 : ∀ z, fb_R_mostOf_46_2 rth rps rln vno vpa vpr vsp vli vop vpu vre vpt vgr vab vbe (nI i) (nI j) z = fb_R_mostOf_46 rth rps rln vno vpa vpr vsp vli vop vpu vre vpt vgr vab vbe (nI i) (nI j) z := fun z => rfl
  have e0 : gq_it 1000000 (fb_R_mostOf_46 rth rps rln vno vpa vpr vsp vli vop vpu vre vpt vgr vab vbe (nI i) (nI j)) (nI 1, pz (pv_m (mq_rm L i j) f c i j (1 - 1))) = some (pz (pv_m (mq_rm L i j) f c i j (2 ^ ng - 1))) :=
    pz_for (fun k => (nI k, pz (pv_m (mq_rm L i j) f c i j (k - 1)))) 1 (2 ^ ng) (by omega) (by omega) body fin
  rw [show pv_m (mq_rm L i j) f c i j (1 - 1) = min (f i) (c j) from rfl] at e0
  have h1 := hfb i (by omega)
  have h2 := hcb j (by omega)
  unfold f_R_mostOf
  simp only [pz_cell2, pz_c (n := 3 * i + j) (by omega), pz_nar0, pz_g (show 3 * i + j < 9 by omega), pz_g (show i < 3 by omega), pz_g (show j < 3 by omega), pz_c (n := i) (by omega), pz_c (n := j) (by omega), hf i hi, hc j hj, funext e2]
  rw [show (1 : Int32) = nI 1 from rfl] at *
  have hcm := @pz_cmp (f i) (c j) (by constructor <;> omega) (by constructor <;> omega)
  by_cases h : c j ≤ f i
  · rw [Int.min_eq_right h] at e0
    rw [e0, if_pos]
    · rfl
    · rw [hcm]; split
      · decide
      · rw [if_pos (by omega)]; decide
  · rw [Int.min_eq_left (by omega)] at e0
    rw [e0, if_neg]
    · rfl
    · rw [hcm, if_neg (by omega), if_neg (by omega)]; decide
/-! Pure part 15: the reference's divide. -/
theorem pr_divide {rth rps : Int32} {rln : Int64} {vno vpa : Nat → Int32} {vpr vsp : Nat → Int64} {vli vop : Nat → Int32} {vpu vre vpt : Nat → Int64} {vgr vab vbe : Nat → Int32} {nb ng : Nat} {m : Nat → Nat} {v : Nat → Nat → Nat} {U : Int} {p : Nat → Int} {L : Nat → Nat → Bool} (hA : pm_A nb ng m v) (hr : pm_R nb ng m v vno) (hU : rln = pz U) (hp : ∀ j, j < ng → vpr j = pz (p j)) (hl : ∀ i j, i < nb → j < ng → vli (3 * i + j) = pz_B (L i j))
    (hLb : ∀ i j, nb ≤ i → L i j = false) (hLg : ∀ i j, ng ≤ j → L i j = false) (hI : pv_I nb ng L 1000000000000000 (L, (fun i => U * m i), p, fun _ => 0)) :
    ∃ r, f_R_divide rth rps rln vno vpa vpr vsp vli vop vpu vre vpt vgr vab vbe = some r ∧ ∀ a b, a < nb → b < ng → r.1 (3 * a + b) = pz ((pv_s ng L (fun i => U * m i) p 9).2.2.2 (3 * a + b)) := by
  obtain ⟨hb, hg, hm1, hm0, hv9, hv0⟩ := hA
  obtain ⟨r0, r1, r3, r6⟩ := hr
  have e1 : gq_it 1000000 (fb_R_divide_2 rth rps rln vno vpa vpr vsp vli vop vre vpt vgr vab vbe) (0, vpu) = some (fun i => if i < nb then pz (U * m i) else vpu i) := by
    refine pz_for (fun k => (nI k, fun i => if i < k then pz (U * m i) else vpu i)) 0 nb (by omega) (by omega) (fun k _ hk => ?_) ?_
    · have h20 := (hm1 k hk).2
      simp only [fb_R_divide_2, pr_buyers r0, Option.bind_some, if_neg (pz_ge hk hb), pr_purseOf (show k < 3 by omega) (r3 k hk), pz_g (show k < 3 by omega), pz_c (n := k) (by omega), nI_1, hU, pz_nI (show m k < 2 ^ 31 by omega), pz_mul]
      rw [pz_updL (F := fun i => pz (U * m i))]
    · simp only [fb_R_divide_2, pr_buyers r0, Option.bind_some, if_pos (pz_le' (Nat.le_refl nb) hb)]
  have e2 : gq_it 1000000 (fb_R_divide_35 rth rps rln vno vpa vpr vsp vli vop vpt vgr vab vbe (fun i => if i < nb then pz (U * m i) else vpu i)) (0, vre) = some (fun j => if j < ng then pz (p j) else vre j) := by
    refine pz_for (fun k => (nI k, fun j => if j < k then pz (p j) else vre j)) 0 ng (by omega) (by omega) (fun k _ hk => ?_) ?_
    · simp only [fb_R_divide_35, pr_goods r1, Option.bind_some, if_neg (pz_ge hk hg), pz_g (show k < 3 by omega), pz_c (n := k) (by omega), nI_1, hp k hk]
      rw [pz_updL (F := fun j => pz (p j))]
    · simp only [fb_R_divide_35, pr_goods r1, Option.bind_some, if_pos (pz_le' (Nat.le_refl ng) hg)]
  have e3 : ∀ (x2 x35 : Nat → Int64), gq_it 1000000 (fb_R_divide_63 rth rps rln vno vpa vpr vli vpt vgr vab vbe x2 x35) (0, vsp, vop) = some ((fun a => if a < 9 then pz 0 else vsp a), (fun a => if a < 9 then pz_B (L (a / 3) (a % 3)) else vop a)) := fun x2 x35 => by
    refine pz_for (fun k => (nI k, (fun a => if a < k then pz 0 else vsp a), (fun a => if a < k then pz_B (L (a / 3) (a % 3)) else vop a))) 0 9 (by omega) (by omega) (fun k _ hk => ?_) ?_
    · simp only [fb_R_divide_63, if_neg (show ¬ (9 : Int32) ≤ nI k from nI_ge (b := 9) hk (by omega)), pr_buyers r0, pr_goods r1, Option.bind_some, pz_d3 (show k < 2 ^ 31 by omega), pz_r3 (show k < 2 ^ 31 by omega), pz_g (show k < 9 by omega), pz_c (n := k) (by omega), nI_1, pz_nar0, pz_nar1]
      have u1 := @pz_updL (fun _ => pz 0) vsp k
      have u2 := @pz_updI (fun a => pz_B (L (a / 3) (a % 3))) vop k
      rw [show (0 : Int64) = pz 0 from rfl]
      by_cases h1 : nb ≤ k / 3
      · rw [if_pos (nI_le h1 (by omega)), u1]
        rw [show pz_B (L (k / 3) (k % 3)) = 0 by rw [hLb _ _ h1]; rfl] at u2
        rw [u2]
      · rw [if_neg (nI_ge (by omega) (by omega))]
        by_cases h2 : ng ≤ k % 3
        · rw [if_pos (nI_le h2 (by omega)), u1]
          rw [show pz_B (L (k / 3) (k % 3)) = 0 by rw [hLg _ _ h2]; rfl] at u2
          rw [u2]
        · rw [if_neg (nI_ge (by omega) (by omega))]
          have hk3 := hl (k / 3) (k % 3) (by omega) (by omega)
          rw [show 3 * (k / 3) + k % 3 = k by omega] at hk3
          rw [hk3]
          by_cases h3 : L (k / 3) (k % 3) = true
          · rw [if_neg (by rw [h3]; decide), u1]
            rw [show pz_B (L (k / 3) (k % 3)) = 1 by rw [h3]; rfl] at u2
            rw [u2]
          · rw [if_pos (by simp only [Bool.not_eq_true] at h3; rw [h3]; decide), u1]
            rw [show pz_B (L (k / 3) (k % 3)) = 0 by simp only [Bool.not_eq_true] at h3; rw [h3]; rfl] at u2
            rw [u2]
    · simp only [fb_R_divide_63]
      rw [if_pos (show (9 : Int32) ≤ nI 9 from nI_le (a := 9) (Nat.le_refl 9) (by omega))]
  have hIk : ∀ k, k ≤ 9 → pv_I nb ng L 1000000000000000 (pv_s ng L (fun i => U * m i) p k) := fun k hk => pv_s_I hb hg hLb hLg hI hk
  have main : ∃ r, gq_it 1000000 (fb_R_divide_124 rth rps rln vno vpa vpr vli vpt vgr vab vbe) (0, (fun a => if a < 9 then pz 0 else vsp a), (fun a => if a < 9 then pz_B (L (a / 3) (a % 3)) else vop a), (fun i => if i < nb then pz (U * m i) else vpu i), (fun j => if j < ng then pz (p j) else vre j)) = some r ∧ ∀ a, a < 9 → r.1 a = pz ((pv_s ng L (fun i => U * m i) p 9).2.2.2 a) := by
    refine pz_invM (fun k z => z.1 = nI k ∧ (∀ a, a < 9 → z.2.1 a = pz ((pv_s ng L (fun i => U * m i) p k).2.2.2 a)) ∧ (∀ a, a < 9 → z.2.2.1 a = pz_B ((pv_s ng L (fun i => U * m i) p k).1 (a / 3) (a % 3))) ∧ (∀ i, i < nb → z.2.2.2.1 i = pz ((pv_s ng L (fun i => U * m i) p k).2.1 i)) ∧ (∀ j, j < ng → z.2.2.2.2 j = pz ((pv_s ng L (fun i => U * m i) p k).2.2.1 j))) 0 9 (by omega) (by omega)
      ⟨rfl, fun a ha => if_pos ha, fun a ha => if_pos ha, fun i hi => if_pos hi, fun j hj => if_pos hj⟩ (fun k z hk hz => ?_) (fun z hz => ?_)
    · obtain ⟨z1, zx, zo, zf, zc⟩ := hz
      have hkI := hIk k (by omega)
      have hx0 := @pv_s_x ng L (fun i => U * m i) p k k (Nat.le_refl _)
      simp only [fb_R_divide_124, z1, if_neg (show ¬ (9 : Int32) ≤ nI k from nI_ge (b := 9) hk (by omega)), pz_g (show k < 9 by omega), pz_c (n := k) (by omega), pz_d3 (show k < 2 ^ 31 by omega), pz_r3 (show k < 2 ^ 31 by omega), pz_g (show k / 3 < 3 by omega), pz_g (show k % 3 < 3 by omega), pz_c (n := k / 3) (by omega), pz_c (n := k % 3) (by omega), zo k hk]
      rw [pv_s]
      generalize pv_s ng L (fun i => U * m i) p k = w at *
      obtain ⟨kH, kf, kc, kL, kf0, kc0, kx⟩ := hkI
      by_cases hw : w.1 (k / 3) (k % 3) = true
      · have hi : k / 3 < nb := by
          rcases Nat.lt_or_ge (k / 3) nb with q | q
          · exact q
          · have := kL _ _ hw; rw [hLb _ _ q] at this; cases this
        have hj : k % 3 < ng := by
          rcases Nat.lt_or_ge (k % 3) ng with q | q
          · exact q
          · have := kL _ _ hw; rw [hLg _ _ q] at this; cases this
        have zo' : ∀ i j, i < nb → j < ng → z.2.2.1 (3 * i + j) = pz_B (w.1 i j) := fun i j hi hj => by
          have := zo (3 * i + j) (by omega)
          rw [show (3 * i + j) / 3 = i by omega, show (3 * i + j) % 3 = j by omega] at this
          exact this
        have wg : ∀ i j, ng ≤ j → w.1 i j = false := fun i j h => by
          cases q : w.1 i j
          · rfl
          · have := kL _ _ q; rw [hLg _ _ h] at this; cases this
        rw [if_pos hw, if_neg (by rw [hw]; decide), pr_mostOf hb hg r0 r1 zo' wg zf kf0 zc kc0 kf kc hi hj, Option.bind_some]
        rw [show 3 * (k / 3) + k % 3 = k by omega]
        refine ⟨_, rfl, nI_1 k, ?_, ?_, ?_, ?_⟩
        · intro a ha
          show vp_updL z.2.1 k _ a = pz (if a = k then _ else w.2.2.2 a)
          unfold vp_updL
          by_cases e : a = k
          · rw [if_pos e, if_pos e]
          · rw [if_neg e, if_neg e]; exact zx a ha
        · intro a ha
          show upd z.2.2.1 k 0 a = pz_B (mq_rm w.1 (k / 3) (k % 3) (a / 3) (a % 3))
          unfold upd
          by_cases e : a = k
          · rw [if_pos e, e]; simp [mq_rm, pz_B]
          · have : ¬ (a / 3 = k / 3 ∧ a % 3 = k % 3) := by omega
            rw [if_neg e, zo a ha]; simp [mq_rm, this]
        · intro a ha
          show vp_updL z.2.2.2.1 (k / 3) _ a = pz (mq_up w.2.1 (k / 3) _ a)
          unfold vp_updL mq_up
          by_cases e : a = k / 3
          · subst e; simp only [if_true]; rw [zf (k / 3) hi, pz_sub]
          · simp [e, zf a ha]
        · intro b hb'
          show vp_updL z.2.2.2.2 (k % 3) _ b = pz (mq_up w.2.2.1 (k % 3) _ b)
          unfold vp_updL mq_up
          by_cases e : b = k % 3
          · subst e; simp only [if_true]; rw [zc (k % 3) hj, pz_sub]
          · simp [e, zc b hb']
      · rw [if_neg hw, if_pos (by simp only [Bool.not_eq_true] at hw; rw [hw]; decide)]
        exact ⟨_, rfl, nI_1 k, zx, zo, zf, zc⟩
    · obtain ⟨z1, zx, -⟩ := hz
      simp only [fb_R_divide_124, z1]
      rw [if_pos (show (9 : Int32) ≤ nI 9 from nI_le (a := 9) (Nat.le_refl 9) (by omega))]
      exact ⟨_, rfl, zx⟩
  obtain ⟨r, hr1, hr2⟩ := main
  unfold f_R_divide
  rw [e1, Option.bind_some, e2, Option.bind_some, e3, Option.bind_some, hr1, Option.bind_some]
  exact ⟨_, rfl, fun a b ha hb' => hr2 (3 * a + b) (by omega)⟩
/-! Pure part 16: the reference's likings and judge. -/
def pz_all (P : Nat → Bool) : Nat → Bool
  | 0 => true
  | k + 1 => pz_all P k && P k
theorem pz_all_iff {P : Nat → Bool} : ∀ {n : Nat}, pz_all P n = true ↔ ∀ k, k < n → P k = true
  | 0 => by simp [pz_all]
  | n + 1 => by
    rw [pz_all, Bool.and_eq_true, pz_all_iff]
    constructor
    · rintro ⟨h1, h2⟩ k hk
      by_cases e : k = n
      · rw [e]; exact h2
      · exact h1 k (by omega)
    · intro h; exact ⟨fun k hk => h k (by omega), h n (by omega)⟩
theorem pr_fl_inner {rth rps : Int32} {rln : Int64} {vno vpa : Nat → Int32} {vpr vsp : Nat → Int64} {vli vop : Nat → Int32} {vpu vre vpt : Nat → Int64} {vgr vab vbe : Nat → Int32} {nb ng i j : Nat} {m : Nat → Nat} {v : Nat → Nat → Nat} {p : Nat → Int} {z2 z12 : Int32 × (Nat → Int32)} (hA : pm_A nb ng m v) (hr : pm_R nb ng m v vno) (hp : ∀ j, j < ng → vpr j = pz (p j)) (hpb : ∀ j, j < ng → 0 ≤ p j ∧ p j ≤ 1000000000000000) (hi : i < nb) (hj : j < ng) (e2 : z2.1 = nI i) (e12 : z12.1 = nI j) (b : Bool) :
    gq_it 1000000 (fb_R_findLikes_38 rth rps rln vno vpa vpr vsp vop vpu vre vpt vgr vab vbe z2 z12) (0, pz_B b) = some (pz_B (b && pz_all (fun k => decide ((v i k : Int) * p j ≤ v i j * p k)) ng)) := by
  obtain ⟨hb, hg, hm1, hm0, hv9, hv0⟩ := hA
  obtain ⟨r0, r1, r3, r6⟩ := hr
  have e0 : pz_B b = pz_B (b && pz_all (fun k => decide ((v i k : Int) * p j ≤ v i j * p k)) 0) := by rw [pz_all, Bool.and_true]
  rw [e0]
  refine pz_for (fun k => (nI k, pz_B (b && pz_all (fun k => decide ((v i k : Int) * p j ≤ v i j * p k)) k))) 0 ng (by omega) (by omega) (fun k _ hk => ?_) ?_
  · have v1 := hv9 i j
    have v2 := hv9 i k
    have p1 := hpb j hj
    have p2 := hpb k hk
    have R1 : pz_R ((v i j : Int) * p k) := by
      have h3 : ((v i j : Nat) : Int) * p k ≤ 9 * 1000000000000000 := Int.mul_le_mul (by omega) p2.2 p2.1 (by omega)
      have h4 : 0 ≤ ((v i j : Nat) : Int) * p k := Int.mul_nonneg (by omega) p2.1
      constructor <;> omega
    have R2 : pz_R ((v i k : Int) * p j) := by
      have h3 : ((v i k : Nat) : Int) * p j ≤ 9 * 1000000000000000 := Int.mul_le_mul (by omega) p1.2 p1.1 (by omega)
      have h4 : 0 ≤ ((v i k : Nat) : Int) * p j := Int.mul_nonneg (by omega) p1.1
      constructor <;> omega
    simp only [fb_R_findLikes_38, e2, e12, pr_goods r1, Option.bind_some, if_neg (pz_ge hk hg), pr_valueOf (show i < 3 by omega) (show j < 3 by omega) (r6 i j hi hj), pr_valueOf (show i < 3 by omega) (show k < 3 by omega) (r6 i k hi hk), pz_g (show k < 3 by omega), pz_g (show j < 3 by omega), pz_c (n := k) (by omega), pz_c (n := j) (by omega), pz_nI (show v i j < 2 ^ 31 by omega), pz_nI (show v i k < 2 ^ 31 by omega), hp k hk, hp j hj, pz_mul, nI_1, pz_B0, pz_all]
    rw [pz_cmp R1 R2]
    generalize hq : pz_all (fun k => decide ((v i k : Int) * p j ≤ v i j * p k)) k = q
    cases b
    · simp; rfl
    · cases q
      · simp; rfl
      · simp only [Bool.and_true, Bool.true_and, Bool.true_eq_false, if_false]
        by_cases h : (v i k : Int) * p j ≤ v i j * p k
        · rw [if_neg, decide_eq_true h]
          · rfl
          · split
            · decide
            · rw [if_pos (by omega)]; decide
        · rw [if_pos, decide_eq_false h]
          · rfl
          · rw [if_neg (by omega), if_neg (by omega)]; decide
  · simp only [fb_R_findLikes_38, pr_goods r1, Option.bind_some, if_pos (pz_le' (Nat.le_refl ng) hg)]
theorem pr_fl_L {nb ng i j : Nat} {v : Nat → Nat → Nat} {p : Nat → Int} (hi : i < nb) (hj : j < ng) : (decide (0 < v i j) && pz_all (fun k => decide ((v i k : Int) * p j ≤ v i j * p k)) ng) = mq_L nb ng (fun i j => v i j) p i j := by
  rw [Bool.eq_iff_iff, mq_L_iff, Bool.and_eq_true, pz_all_iff, decide_eq_true_iff]
  constructor
  · rintro ⟨h1, h2⟩
    exact ⟨hi, hj, by omega, fun k hk => by simpa using h2 k hk⟩
  · rintro ⟨-, -, h1, h2⟩
    exact ⟨by omega, fun k hk => by simpa using h2 k hk⟩
theorem pr_findLikes {rth rps : Int32} {rln : Int64} {vno vpa : Nat → Int32} {vpr vsp : Nat → Int64} {vli vop : Nat → Int32} {vpu vre vpt : Nat → Int64} {vgr vab vbe : Nat → Int32} {nb ng : Nat} {m : Nat → Nat} {v : Nat → Nat → Nat} {p : Nat → Int} (hA : pm_A nb ng m v) (hr : pm_R nb ng m v vno) (hp : ∀ j, j < ng → vpr j = pz (p j)) (hpb : ∀ j, j < ng → 0 ≤ p j ∧ p j ≤ 1000000000000000) :
    ∃ r, f_R_findLikes rth rps rln vno vpa vpr vsp vli vop vpu vre vpt vgr vab vbe = some r ∧ ∀ i j, i < nb → j < ng → r (3 * i + j) = pz_B (mq_L nb ng (fun i j => v i j) p i j) := by
  have hA' := hA
  have hr' := hr
  obtain ⟨hb, hg, hm1, hm0, hv9, hv0⟩ := hA
  obtain ⟨r0, r1, r3, r6⟩ := hr
  have main : ∃ r, gq_it 1000000 (fb_R_findLikes_2 rth rps rln vno vpa vpr vsp vop vpu vre vpt vgr vab vbe) (0, vli) = some r ∧ ∀ i j, i < nb → j < ng → r (3 * i + j) = pz_B (mq_L nb ng (fun i j => v i j) p i j) := by
    refine pz_invM (fun i z => z.1 = nI i ∧ ∀ a b, a < i → b < ng → z.2 (3 * a + b) = pz_B (mq_L nb ng (fun i j => v i j) p a b)) 0 nb (by omega) (by omega) ⟨rfl, fun a b h => by omega⟩ (fun i z hi hz => ?_) (fun z hz => ?_)
    · obtain ⟨z1, z2⟩ := hz
      have inner : ∃ r, gq_it 1000000 (fb_R_findLikes_12 rth rps rln vno vpa vpr vsp vop vpu vre vpt vgr vab vbe z) (0, z.2) = some r ∧ ∀ a b, a < i + 1 → b < ng → r (3 * a + b) = pz_B (mq_L nb ng (fun i j => v i j) p a b) := by
        refine pz_invM (fun j y => y.1 = nI j ∧ ∀ a b, b < ng → (a < i ∨ (a = i ∧ b < j)) → y.2 (3 * a + b) = pz_B (mq_L nb ng (fun i j => v i j) p a b)) 0 ng (by omega) (by omega) ⟨rfl, fun a b hb' h => z2 a b (by omega) hb'⟩ (fun j y hj hy => ?_) (fun y hy => ?_)
        · obtain ⟨y1, y2⟩ := hy
          have v1 := hv9 i j
          have hE : ∀ w, fb_R_findLikes_38_2 rth rps rln vno vpa vpr vsp vop vpu vre vpt vgr vab vbe z y w = fb_R_findLikes_38 rth rps rln vno vpa vpr vsp vop vpu vre vpt vgr vab vbe z y w := fun w => rfl
          have hN : ∀ b : Bool, vp_nar .boolean (pz_B b) = pz_B b := fun b => by cases b <;> rfl
          have hin := fun b => @pr_fl_inner rth rps rln vno vpa vpr vsp vli vop vpu vre vpt vgr vab vbe nb ng i j m v p z y hA' hr' hp hpb hi hj z1 y1 b
          have q0 := hin false
          have q1 := hin true
          rw [show pz_B false = 0 from rfl] at q0
          rw [show pz_B true = 1 from rfl] at q1
          have fin : ∀ b : Bool, b = mq_L nb ng (fun i j => (v i j : Int)) p i j → ∀ a c, c < ng → (a < i ∨ (a = i ∧ c < j + 1)) → upd y.2 (3 * i + j) (pz_B b) (3 * a + c) = pz_B (mq_L nb ng (fun i j => v i j) p a c) := fun b hbL a c hc h => by
            unfold upd
            by_cases e : 3 * a + c = 3 * i + j
            · have e1 : a = i := by omega
              have e2 : c = j := by omega
              rw [if_pos e, e1, e2, hbL]
            · rw [if_neg e]
              exact y2 a c hc (by omega)
          have hLL := @pr_fl_L nb ng i j v p hi hj
          simp only [fb_R_findLikes_12, z1, y1, pr_goods r1, Option.bind_some, if_neg (pz_ge hj hg), pr_valueOf (show i < 3 by omega) (show j < 3 by omega) (r6 i j hi hj), pz_cell2, pz_g (show 3 * i + j < 9 by omega), pz_c (n := 3 * i + j) (by omega), funext hE, q0, q1, hN, nI_1]
          by_cases h0 : v i j = 0
          · rw [if_pos (show nI (v i j) ≤ 0 by rw [h0]; decide)]
            exact ⟨_, rfl, rfl, fin _ (by rw [← hLL]; simp [h0])⟩
          · rw [if_neg (show ¬ nI (v i j) ≤ 0 from nI_nle (by omega) (by omega))]
            exact ⟨_, rfl, rfl, fin _ (by rw [← hLL]; simp [show 0 < v i j by omega])⟩
        · obtain ⟨y1, y2⟩ := hy
          simp only [fb_R_findLikes_12, y1, pr_goods r1, Option.bind_some, if_pos (pz_le' (Nat.le_refl ng) hg)]
          exact ⟨_, rfl, fun a b ha hb' => y2 a b hb' (by omega)⟩
      obtain ⟨r, h1, h2⟩ := inner
      simp only [fb_R_findLikes_2, z1, pr_buyers r0, Option.bind_some, if_neg (pz_ge hi hb), h1, nI_1]
      exact ⟨_, rfl, rfl, h2⟩
    · obtain ⟨z1, z2⟩ := hz
      simp only [fb_R_findLikes_2, z1, pr_buyers r0, Option.bind_some, if_pos (pz_le' (Nat.le_refl nb) hb)]
      exact ⟨_, rfl, z2⟩
  obtain ⟨r, h1, h2⟩ := main
  unfold f_R_findLikes
  rw [h1]
  exact ⟨r, rfl, h2⟩
theorem pr_sumOfPrices {rth rps : Int32} {rln : Int64} {vno vpa : Nat → Int32} {vpr vsp : Nat → Int64} {vli vop : Nat → Int32} {vpu vre vpt : Nat → Int64} {vgr vab vbe : Nat → Int32} {ng s : Nat} {c : Nat → Int} (hg : ng ≤ 3) (hn : vno 1 = nI ng) (hs : s < 8) (hc : ∀ j, j < ng → vpr j = pz (c j)) (hc0 : ∀ j, ng ≤ j → c j = 0) :
    f_R_sumOfPrices rth rps rln vno vpa vpr vsp vli vop vpu vre vpt vgr vab vbe (nI s) = some (pz (mq_c c (pz_S s))) := by
  have e : gq_it 1000000 (fb_R_sumOfPrices_5 rth rps rln vno vpa vpr vsp vli vop vpu vre vpt vgr vab vbe (nI s)) (0, 0) = some (pz (pz_s (fun j => bif pz_S s j then c j else 0) ng)) := by
    refine pz_for (fun k => (nI k, pz (pz_s (fun j => bif pz_S s j then c j else 0) k))) 0 ng (by omega) (by omega) (fun k _ hk => ?_) ?_
    · simp only [fb_R_sumOfPrices_5, pr_goods hn, Option.bind_some, if_neg (pz_ge hk hg), pz_hasR (show s < 512 by omega) (show k < 9 by omega), pz_g (show k < 3 by omega), pz_c (n := k) (by omega), hc k hk, nI_1, pz_add, pz_s]
      cases pz_S s k
      · simp
      · simp
    · simp only [fb_R_sumOfPrices_5, pr_goods hn, Option.bind_some, if_pos (pz_le' (Nat.le_refl ng) hg)]
  unfold f_R_sumOfPrices
  rw [e, Option.bind_some, pz_scG hg hc0]
theorem pr_moneyFor {rth rps : Int32} {rln : Int64} {vno vpa : Nat → Int32} {vpr vsp : Nat → Int64} {vli vop : Nat → Int32} {vpu vre vpt : Nat → Int64} {vgr vab vbe : Nat → Int32} {nb ng s : Nat} {m : Nat → Nat} {v : Nat → Nat → Nat} {U : Int} {L : Nat → Nat → Bool} (hA : pm_A nb ng m v) (hr : pm_R nb ng m v vno) (hU : rln = pz U) (hs : s < 8) (hL : ∀ i j, i < nb → j < ng → vli (3 * i + j) = pz_B (L i j)) (hL0 : ∀ i j, ng ≤ j → L i j = false) :
    f_R_moneyFor rth rps rln vno vpa vpr vsp vli vop vpu vre vpt vgr vab vbe (nI s) = some (pz (mq_c (fun i => U * m i) (mq_g L (pz_S s)))) := by
  subst hU
  obtain ⟨hb, hg, hm1, hm0, hv9, hv0⟩ := hA
  obtain ⟨r0, r1, r3, r6⟩ := hr
  have inner : ∀ (i : Nat) (z : Int32 × Int64), i < nb → z.1 = nI i → gq_it 1000000 (fb_R_moneyFor_20 rth rps (pz U) vno vpa vpr vsp vli vop vpu vre vpt vgr vab vbe (nI s) z) (0, 0) = some (pz_B (mq_g L (pz_S s) i)) := fun i z hi hz => by
    rw [← pz_any_g hg (hL0 i)]
    refine pz_for (fun k => (nI k, pz_B (pz_any (fun j => pz_S s j && L i j) k))) 0 ng (by omega) (by omega) (fun k _ hk => ?_) ?_
    · simp only [fb_R_moneyFor_20, hz, pr_goods r1, Option.bind_some, if_neg (pz_ge hk hg), pz_hasR (show s < 512 by omega) (show k < 9 by omega), pz_cell2, pz_g (show 3 * i + k < 9 by omega), pz_c (n := 3 * i + k) (by omega), hL i k hi hk, pz_any, nI_1, pz_B0]
      cases pz_any (fun j => pz_S s j && L i j) k
      · cases pz_S s k
        · simp; rfl
        · cases L i k
          · simp; rfl
          · simp; rfl
      · simp; rfl
    · simp only [fb_R_moneyFor_20, pr_goods r1, Option.bind_some, if_pos (pz_le' (Nat.le_refl ng) hg)]
  have e : gq_it 1000000 (fb_R_moneyFor_5 rth rps (pz U) vno vpa vpr vsp vli vop vpu vre vpt vgr vab vbe (nI s)) (0, 0) = some (pz (pz_s (fun i => bif mq_g L (pz_S s) i then (fun i => U * (m i : Int)) i else 0) nb)) := by
    refine pz_for (fun k => (nI k, pz (pz_s (fun i => bif mq_g L (pz_S s) i then (fun i => U * (m i : Int)) i else 0) k))) 0 nb (by omega) (by omega) (fun k _ hk => ?_) ?_
    · have h20 := (hm1 k hk).2
      have hin := fun q => inner k (nI k, q) hk rfl
      simp only [fb_R_moneyFor_5, pr_buyers r0, Option.bind_some, if_neg (pz_ge hk hb), hin, pz_B0, pr_purseOf (show k < 3 by omega) (r3 k hk), pz_nI (show m k < 2 ^ 31 by omega), pz_mul, nI_1, pz_add, pz_s]
      cases mq_g L (pz_S s) k
      · simp
      · simp
    · simp only [fb_R_moneyFor_5, pr_buyers r0, Option.bind_some, if_pos (pz_le' (Nat.le_refl nb) hb)]
  unfold f_R_moneyFor
  rw [e, Option.bind_some, pz_scG hb (fun j hj => by simp [hm0 j hj])]
def pr_J (ng : Nat) (L : Nat → Nat → Bool) (f p : Nat → Int) : Int32 :=
  if mq_c p (pz_S (2 ^ ng - 1)) = mq_c f (mq_g L (pz_S (2 ^ ng - 1))) then (pz_fst (fun s => decide (mq_c f (mq_g L (pz_S s)) < mq_c p (pz_S s))) (2 ^ ng - 1) 1).elim 0 nI else -1
theorem pr_judge {rth rps : Int32} {rln : Int64} {vno vpa : Nat → Int32} {vpr vsp : Nat → Int64} {vli vop : Nat → Int32} {vpu vre vpt : Nat → Int64} {vgr vab vbe : Nat → Int32} {nb ng : Nat} {m : Nat → Nat} {v : Nat → Nat → Nat} {U : Int} {p : Nat → Int} (hA : pm_A nb ng m v) (hr : pm_R nb ng m v vno) (hU : rln = pz U) (hp : ∀ j, j < ng → vpr j = pz (p j)) (hp0 : ∀ j, ng ≤ j → p j = 0) (hpb : ∀ j, 0 ≤ p j ∧ p j ≤ 1000000000000000) (hUb : 0 ≤ U ∧ U ≤ 1000000000000000) :
    ∃ r, f_R_judge rth rps rln vno vpa vpr vsp vli vop vpu vre vpt vgr vab vbe = some (pr_J ng (mq_L nb ng (fun i j => v i j) p) (fun i => U * m i) p, r) ∧ ∀ i j, i < nb → j < ng → r (3 * i + j) = pz_B (mq_L nb ng (fun i j => v i j) p i j) := by
  have hA' := hA
  have hr' := hr
  obtain ⟨hb, hg, hm1, hm0, hv9, hv0⟩ := hA
  obtain ⟨r0, r1, r3, r6⟩ := hr
  obtain ⟨r, h1, h2⟩ := @pr_findLikes rth rps rln vno vpa vpr vsp vli vop vpu vre vpt vgr vab vbe nb ng m v p hA' hr' hp (fun j _ => hpb j)
  have hp2 := pz_p2 ng hg
  have hp20 : 0 < 2 ^ ng := Nat.pow_pos (by omega)
  have hL0 : ∀ i j, ng ≤ j → mq_L nb ng (fun i j => (v i j : Int)) p i j = false := fun i j h => by
    cases q : mq_L nb ng (fun i j => (v i j : Int)) p i j
    · rfl
    · have := (mq_L_iff.mp q).2.1; omega
  have hs1 : ∀ s, s < 8 → f_R_sumOfPrices rth rps rln vno vpa vpr vsp r vop vpu vre vpt vgr vab vbe (nI s) = some (pz (mq_c p (pz_S s))) := fun s hs => pr_sumOfPrices hg r1 hs hp hp0
  have hs2 : ∀ s, s < 8 → f_R_moneyFor rth rps rln vno vpa vpr vsp r vop vpu vre vpt vgr vab vbe (nI s) = some (pz (mq_c (fun i => U * m i) (mq_g (mq_L nb ng (fun i j => v i j) p) (pz_S s)))) := fun s hs => pr_moneyFor hA' hr' hU hs h2 hL0
  have R1 : ∀ s, pz_R (mq_c p (pz_S s)) := fun s => by
    have := @pz_c_b p (pz_S s) 1000000000000000 (fun a _ => hpb a)
    constructor <;> omega
  have R2 : ∀ S, pz_R (mq_c (fun i => U * (m i : Int)) S) := fun S => by
    have := @pz_c_b (fun i => U * (m i : Int)) S (1000000000000000 * 20) (fun a _ => by
      have hm : (m a : Int) ≤ 20 := by
        by_cases h : a < nb
        · have := (hm1 a h).2; omega
        · rw [hm0 a (by omega)]; omega
      exact ⟨Int.mul_nonneg hUb.1 (by omega), Int.mul_le_mul hUb.2 hm (by omega) (by omega)⟩)
    constructor <;> omega
  refine ⟨r, ?_, h2⟩
  unfold f_R_judge
  rw [h1, Option.bind_some, pr_goods r1, Option.bind_some, pz_shm ng hg, hs1 _ (by omega), Option.bind_some, hs2 _ (by omega), Option.bind_some, pz_cmp (R1 _) (R2 _)]
  unfold pr_J
  by_cases h : mq_c p (pz_S (2 ^ ng - 1)) = mq_c (fun i => U * (m i : Int)) (mq_g (mq_L nb ng (fun i j => v i j) p) (pz_S (2 ^ ng - 1)))
  · rw [if_neg (show ¬ mq_c (fun i => U * (m i : Int)) (mq_g (mq_L nb ng (fun i j => v i j) p) (pz_S (2 ^ ng - 1))) < mq_c p (pz_S (2 ^ ng - 1)) by omega), if_pos h, if_pos rfl, if_pos h]
    have e : gq_it 1000000 (fb_R_judge_31 rth rps rln vno vpa vpr vsp vop vpu vre vpt vgr vab vbe r (nI ng)) (nI 1) = some ((pz_fst (fun s => decide (mq_c (fun i => U * (m i : Int)) (mq_g (mq_L nb ng (fun i j => v i j) p) (pz_S s)) < mq_c p (pz_S s))) (2 ^ ng - 1) 1).elim (.inr ()) (fun k => .inl (nI k))) := by
      refine pz_find (x := Sum.inr ()) nI (fun k => Sum.inl (nI k)) (fun s => decide (mq_c (fun i => U * (m i : Int)) (mq_g (mq_L nb ng (fun i j => v i j) p) (pz_S s)) < mq_c p (pz_S s))) (2 ^ ng - 1) 1 1000000 (by omega) (fun k k1 k2 => ?_) ?_
      · have k8 : k < 8 := by omega
        simp only [fb_R_judge_31, pz_shm ng hg, if_neg (show ¬ nI (2 ^ ng - 1) < nI k from nI_nlt (by omega) (by omega)), hs1 k k8, hs2 k k8, Option.bind_some, nI_1]
        rw [pz_cmp (R1 _) (R2 _)]
        by_cases q : mq_c (fun i => U * (m i : Int)) (mq_g (mq_L nb ng (fun i j => v i j) p) (pz_S k)) < mq_c p (pz_S k)
        · simp only [if_pos q, decide_eq_true q, if_true]; rfl
        · rw [if_neg q, if_pos (by split <;> decide)]; simp [q]
      · simp only [fb_R_judge_31, pz_shm ng hg]
        rw [if_pos (nI_lt (by omega) (by omega))]
    rw [show (1 : Int32) = nI 1 from rfl, e, Option.bind_some]
    cases pz_fst (fun s => decide (mq_c (fun i => U * (m i : Int)) (mq_g (mq_L nb ng (fun i j => v i j) p) (pz_S s)) < mq_c p (pz_S s))) (2 ^ ng - 1) 1 <;> simp [gq_e]
  · rw [if_neg h, if_neg, if_neg h]
    split <;> decide
/-! Pure part 17: the reference's ties: goods in groups, parts in proportion. -/
theorem pz_invE {S X : Type} {b : S → Option (S ⊕ X)} {Q : X → Prop} (I : Nat → S → Prop) (n : Nat) (step : ∀ k s, k < n → I k s → (∃ s', b s = some (.inl s') ∧ I (k + 1) s') ∨ (∃ x, b s = some (.inr x) ∧ Q x)) (fin : ∀ s, I n s → ∃ x, b s = some (.inr x) ∧ Q x) :
    ∀ (d N k : Nat) (s : S), k + d = n → d < N → I k s → ∃ x, gq_it N b s = some x ∧ Q x
  | 0, N + 1, k, s, hk, _, hI => by
    obtain ⟨x, h1, h2⟩ := fin s (by rw [← hk]; exact hI)
    exact ⟨x, by unfold gq_it; rw [h1], h2⟩
  | d + 1, N + 1, k, s, hk, hN, hI => by
    rcases step k s (by omega) hI with ⟨s', h1, h2⟩ | ⟨x, h1, h2⟩
    · obtain ⟨x, h3, h4⟩ := pz_invE I n step fin d N (k + 1) s' (by omega) (by omega) h2
      exact ⟨x, by unfold gq_it; rw [h1]; exact h3, h4⟩
    · exact ⟨x, by unfold gq_it; rw [h1], h2⟩
theorem pz_invF {S X : Type} {b : S → Option (S ⊕ X)} {Q : X → Prop} {s : S} (I : Nat → S → Prop) (a n : Nat) (ha : a ≤ n) (hn : n < 1000000) (h0 : I a s) (step : ∀ k s, k < n → I k s → (∃ s', b s = some (.inl s') ∧ I (k + 1) s') ∨ (∃ x, b s = some (.inr x) ∧ Q x)) (fin : ∀ s, I n s → ∃ x, b s = some (.inr x) ∧ Q x) : ∃ x, gq_it 1000000 b s = some x ∧ Q x :=
  pz_invE I n step fin (n - a) 1000000 a s (by omega) (by omega) h0
/-- what buyer i buys in way w -/
def pz_w (w i : Nat) : Nat := (w / 8 ^ i) % 8
theorem pz_w_lt {w i : Nat} : pz_w w i < 8 := Nat.mod_lt _ (by omega)
theorem pz_wI : ∀ w, w < 512 → ∀ i, i < 3 → (nI w >>> ((3 * nI i) &&& 31)) &&& 7 = nI (pz_w w i) := by decide +kernel
theorem pz_wS : ∀ w, w < 512 → ∀ i, i < 3 → ∀ j, j < 3 → pz_S (pz_w w i) j = pz_S w (3 * i + j) := by decide +kernel
theorem pz_shr : ∀ s, s < 8 → ∀ g, g ≤ 3 → (nI s >>> (nI g &&& 31) ≤ 0 ↔ ∀ j, j < 3 → pz_S s j = true → j < g) := by decide +kernel
theorem pr_firstOf {rth rps : Int32} {rln : Int64} {vno vpa : Nat → Int32} {vpr vsp : Nat → Int64} {vli vop : Nat → Int32} {vpu vre vpt : Nat → Int64} {vgr vab vbe : Nat → Int32} {nb ng i s : Nat} {m : Nat → Nat} {v : Nat → Nat → Nat} (hA : pm_A nb ng m v) (hr : pm_R nb ng m v vno) (hi : i < nb) (hs : s < 8) :
    ∃ y, f_R_firstOf rth rps rln vno vpa vpr vsp vli vop vpu vre vpt vgr vab vbe (nI i) (nI s) = some y ∧ ((y = -1 ∧ ((∃ j, j < ng ∧ pz_S s j = true ∧ v i j = 0) ∨ ∀ j, j < ng → pz_S s j = false)) ∨ ∃ f, f < ng ∧ y = nI f ∧ pz_S s f = true ∧ (∀ j, j < f → pz_S s j = false) ∧ ∀ j, j < ng → pz_S s j = true → 0 < v i j) := by
  obtain ⟨hb, hg, hm1, hm0, hv9, hv0⟩ := hA
  obtain ⟨r0, r1, r3, r6⟩ := hr
  have main : ∃ x, gq_it 1000000 (fb_R_firstOf_10 rth rps rln vno vpa vpr vsp vli vop vpu vre vpt vgr vab vbe (nI i) (nI s)) (nI (ng - 0) - 1, -1) = some x ∧ gq_e (fun _ => ∃ j, j < ng ∧ pz_S s j = true ∧ v i j = 0) (fun y => (y = -1 ∧ ∀ j, j < ng → pz_S s j = false) ∨ ∃ f, f < ng ∧ y = nI f ∧ pz_S s f = true ∧ (∀ j, j < f → pz_S s j = false) ∧ ∀ j, j < ng → pz_S s j = true → 0 < v i j) x := by
    refine pz_invF (fun t z => z.1 = nI (ng - t) - 1 ∧ (∀ j, ng - t ≤ j → j < ng → pz_S s j = true → 0 < v i j) ∧ ((z.2 = -1 ∧ ∀ j, ng - t ≤ j → j < ng → pz_S s j = false) ∨ ∃ f, f < ng ∧ ng - t ≤ f ∧ z.2 = nI f ∧ pz_S s f = true ∧ ∀ j, ng - t ≤ j → j < f → pz_S s j = false)) 0 ng (by omega) (by omega) ⟨rfl, fun j h1 h2 => by omega, Or.inl ⟨rfl, fun j h1 h2 => by omega⟩⟩ (fun t z ht hz => ?_) (fun z hz => ?_)
    · obtain ⟨z1, z2, z3⟩ := hz
      have e1 : nI (ng - t) - 1 = nI (ng - t - 1) := by
        have := nI_pred (ng - t - 1)
        rw [show ng - t - 1 + 1 = ng - t by omega] at this; exact this
      have v1 := hv9 i (ng - t - 1)
      rw [e1] at z1
      have e2 : nI (ng - t - 1) + (-1) = nI (ng - (t + 1)) - 1 := by
        rw [show ng - (t + 1) = ng - t - 1 by omega, Int32.sub_eq_add_neg]
      simp only [fb_R_firstOf_10, z1, if_neg (nI_pos (show ng - t - 1 < 2 ^ 31 by omega)), pz_hasR (show s < 512 by omega) (show ng - t - 1 < 9 by omega), Option.bind_some, pr_valueOf (show i < 3 by omega) (show ng - t - 1 < 3 by omega) (r6 i (ng - t - 1) hi (by omega)), e2]
      have hcase : ∀ j, ng - (t + 1) ≤ j → j = ng - t - 1 ∨ ng - t ≤ j := fun j h => by omega
      cases hS : pz_S s (ng - t - 1)
      · simp only [Bool.false_eq_true, if_false, if_true]
        refine Or.inl ⟨_, rfl, rfl, fun j h1 h2 h3 => ?_, ?_⟩
        · rcases hcase j h1 with q | q
          · rw [q, hS] at h3; cases h3
          · exact z2 j q h2 h3
        · rcases z3 with ⟨q1, q2⟩ | ⟨f, q1, q2, q3, q4, q5⟩
          · exact Or.inl ⟨q1, fun j h1 h2 => by
              rcases hcase j h1 with q | q
              · rw [q]; exact hS
              · exact q2 j q h2⟩
          · exact Or.inr ⟨f, q1, by omega, q3, q4, fun j h1 h2 => by
              rcases hcase j h1 with q | q
              · rw [q]; exact hS
              · exact q5 j q h2⟩
      · simp only [if_true, if_neg (show ¬ (1 : Int32) = 0 by decide)]
        by_cases h0 : v i (ng - t - 1) = 0
        · rw [if_pos (by rw [h0]; rfl)]
          exact Or.inr ⟨_, rfl, ng - t - 1, by omega, hS, h0⟩
        · rw [if_neg (nI_ne0 (by omega) (by omega))]
          refine Or.inl ⟨_, rfl, rfl, fun j h1 h2 h3 => ?_, Or.inr ⟨ng - t - 1, by omega, by omega, rfl, hS, fun j h1 h2 => by omega⟩⟩
          rcases hcase j h1 with q | q
          · rw [q]; omega
          · exact z2 j q h2 h3
    · obtain ⟨z1, z2, z3⟩ := hz
      rw [Nat.sub_self] at z1
      simp only [fb_R_firstOf_10, z1, if_pos (show nI 0 - 1 < 0 by decide)]
      refine ⟨_, rfl, ?_⟩
      simp only [gq_e]
      rcases z3 with ⟨q1, q2⟩ | ⟨f, q1, q2, q3, q4, q5⟩
      · exact Or.inl ⟨q1, fun j h => q2 j (by omega) h⟩
      · exact Or.inr ⟨f, q1, q3, q4, fun j h => q5 j (by omega) h, fun j h1 h2 => z2 j (by omega) h1 h2⟩
  obtain ⟨x, h1, h2⟩ := main
  rw [Nat.sub_zero] at h1
  unfold f_R_firstOf
  rw [pr_goods r1, Option.bind_some, h1, Option.bind_some]
  cases x with
  | inl u => exact ⟨_, rfl, Or.inl ⟨rfl, Or.inl h2⟩⟩
  | inr y =>
    refine ⟨y, rfl, ?_⟩
    rcases h2 with ⟨q1, q2⟩ | q
    · exact Or.inl ⟨q1, Or.inr q2⟩
    · exact Or.inr q
theorem pr_scale {rth rps : Int32} {rln : Int64} {vno vpa : Nat → Int32} {vpr vsp : Nat → Int64} {vli vop : Nat → Int32} {vpu vre vpt : Nat → Int64} {vgr vab vbe : Nat → Int32} {part grp : Nat → Nat} {g b : Nat} (hp : ∀ x, x < 3 → vpt x = pz (part x)) (hgr : ∀ x, x < 3 → vgr x = nI (grp x) ∧ grp x < 3) (hg : g < 3) :
    f_R_scale rth rps rln vno vpa vpr vsp vli vop vpu vre vpt vgr vab vbe (nI g) (pz b) = some (fun x => if x < 3 then pz ((if grp x = g then part x * b else part x : Nat) : Int) else vpt x) := by
  have e : gq_it 1000000 (fb_R_scale_3 vgr (nI g) (pz b)) (0, vpt) = some (fun x => if x < 3 then pz ((if grp x = g then part x * b else part x : Nat) : Int) else vpt x) := by
    refine pz_for (fun k => (nI k, fun x => if x < k then pz ((if grp x = g then part x * b else part x : Nat) : Int) else vpt x)) 0 3 (by omega) (by omega) (fun k _ hk => ?_) ?_
    · have u := @pz_updL (fun x => pz ((if grp x = g then part x * b else part x : Nat) : Int)) vpt k
      simp only [fb_R_scale_3, if_neg (show ¬ (3 : Int32) ≤ nI k from nI_ge (b := 3) hk (by omega)), pz_g hk, pz_c (n := k) (by omega), (hgr k hk).1, nI_eq (show grp k < 2 ^ 31 by have := (hgr k hk).2; omega) (show g < 2 ^ 31 by omega), nI_1, Nat.lt_irrefl, if_false, hp k hk, pz_mul]
      by_cases h : grp k = g
      · rw [if_pos h]
        rw [show pz ((if grp k = g then part k * b else part k : Nat) : Int) = pz ((part k : Int) * b) by rw [if_pos h]; simp] at u
        rw [u]
      · rw [if_neg h]
        rw [show pz ((if grp k = g then part k * b else part k : Nat) : Int) = pz (part k : Int) by rw [if_neg h]] at u
        rw [u]
    · simp only [fb_R_scale_3]
      rw [if_pos (show (3 : Int32) ≤ nI 3 from nI_le (a := 3) (Nat.le_refl 3) (by omega))]
  unfold f_R_scale
  rw [e]; rfl
def pr_sz (grp : Nat → Nat) (x : Nat) : Nat := (if grp 0 = x then 1 else 0) + (if grp 1 = x then 1 else 0) + (if grp 2 = x then 1 else 0)
theorem pr_sz_pos {grp : Nat → Nat} {j : Nat} (hj : j < 3) : 1 ≤ pr_sz grp (grp j) ∧ pr_sz grp (grp j) ≤ 3 := by
  unfold pr_sz
  rcases (by omega : j = 0 ∨ j = 1 ∨ j = 2) with rfl | rfl | rfl <;> split <;> split <;> split <;> omega
/-- groups and parts of a state: parts bounded by the size of the group -/
def pr_G (part grp : Nat → Nat) : Prop := ∀ x, x < 3 → grp x < 3 ∧ 1 ≤ part x ∧ part x ≤ 9 ^ (pr_sz grp (grp x) - 1)
def pr_Gc (part grp q : Nat → Nat) : Prop := ∀ x y, x < 3 → y < 3 → grp x = grp y → part x * q y = part y * q x
def pr_mg (grp : Nat → Nat) (g h : Nat) : Nat → Nat := fun x => if grp x = h then g else grp x
theorem pr_sz_mg {grp : Nat → Nat} {g h : Nat} (hgh : g ≠ h) : pr_sz (pr_mg grp g h) g = pr_sz grp g + pr_sz grp h ∧ ∀ x, x ≠ g → x ≠ h → pr_sz (pr_mg grp g h) x = pr_sz grp x := by
  unfold pr_sz pr_mg
  constructor
  · split <;> split <;> split <;> split <;> split <;> split <;> (try split) <;> (try split) <;> (try split) <;> omega
  · intro x h1 h2
    split <;> split <;> split <;> split <;> split <;> split <;> (try split) <;> (try split) <;> (try split) <;> omega
/-! Pure part 18: the reference's tie. -/
theorem pr_G81 {part grp : Nat → Nat} (hG : pr_G part grp) {x : Nat} (hx : x < 3) : part x ≤ 81 := by
  have h1 := (hG x hx).2.2
  have h2 := @pr_sz_pos grp x hx
  have : 9 ^ (pr_sz grp (grp x) - 1) ≤ 9 ^ 2 := Nat.pow_le_pow_right (by omega) (by omega)
  omega
theorem pr_mul_le9 {a b : Nat} {A B : Nat} (ha : a ≤ A) (hb : b ≤ B) : a * b ≤ A * B := Nat.mul_le_mul ha hb
theorem pr_cons4 {px pk py pj a b qx qj qk qy : Nat} (h1 : px * qj = pj * qx) (h2 : py * qk = pk * qy) (h3 : a * qk = b * qj) : px * (pk * a) * qy = py * (pj * b) * qx := by
  calc px * (pk * a) * qy = px * a * (pk * qy) := by ac_rfl
    _ = px * a * (py * qk) := by rw [h2]
    _ = px * py * (a * qk) := by ac_rfl
    _ = px * py * (b * qj) := by rw [h3]
    _ = py * b * (px * qj) := by ac_rfl
    _ = py * b * (pj * qx) := by rw [h1]
    _ = _ := by ac_rfl
theorem pr_cons3 {x y u w d qx qy : Nat} (hd : 0 < d) (hu : d ∣ u) (hw : d ∣ w) (h : x * u * qy = y * w * qx) : x * (u / d) * qy = y * (w / d) * qx := by
  obtain ⟨s, rfl⟩ := hu
  obtain ⟨t, rfl⟩ := hw
  rw [Nat.mul_div_cancel_left _ hd, Nat.mul_div_cancel_left _ hd]
  have : d * (x * s * qy) = d * (y * t * qx) := by
    calc d * (x * s * qy) = x * (d * s) * qy := by ac_rfl
      _ = y * (d * t) * qx := h
      _ = _ := by ac_rfl
  exact Nat.eq_of_mul_eq_mul_left hd this
theorem pr_tie {rth rps : Int32} {rln : Int64} {vno vpa : Nat → Int32} {vpr vsp : Nat → Int64} {vli vop : Nat → Int32} {vpu vre vpt : Nat → Int64} {vgr vab vbe : Nat → Int32} {nb ng i j k : Nat} {m : Nat → Nat} {v : Nat → Nat → Nat} {part grp : Nat → Nat} (hA : pm_A nb ng m v) (hr : pm_R nb ng m v vno) (hp : ∀ x, x < 3 → vpt x = pz (part x)) (hgr : ∀ x, x < 3 → vgr x = nI (grp x)) (hG : pr_G part grp) (hi : i < nb) (hj : j < ng) (hk : k < ng) (hvj : 0 < v i j) (hvk : 0 < v i k) :
    ∃ (fl : Bool) (part' grp' : Nat → Nat) (vpt' : Nat → Int64) (vgr' : Nat → Int32), f_R_tie rth rps rln vno vpa vpr vsp vli vop vpu vre vpt vgr vab vbe (nI i) (nI j) (nI k) = some (pz_B fl, vpt', vgr') ∧ (∀ x, x < 3 → vpt' x = pz (part' x)) ∧ (∀ x, x < 3 → vgr' x = nI (grp' x)) ∧ pr_G part' grp' ∧ (fl = true → grp' j = grp' k) ∧ (∀ x y, x < 3 → y < 3 → grp x = grp y → grp' x = grp' y) ∧ (∀ q : Nat → Nat, (∀ x, x < 3 → 0 < q x) → pr_Gc part grp q → v i j * q k = v i k * q j → fl = true ∧ pr_Gc part' grp' q) := by
  obtain ⟨hb, hg, hm1, hm0, hv9, hv0⟩ := hA
  obtain ⟨r0, r1, r3, r6⟩ := hr
  have a9 := hv9 i j
  have b9 := hv9 i k
  have j3 : j < 3 := by omega
  have k3 : k < 3 := by omega
  have pj := pr_G81 hG j3
  have pk := pr_G81 hG k3
  have pj1 := (hG j j3).2.1
  have pk1 := (hG k k3).2.1
  have gj := (hG j j3).1
  have gk := (hG k k3).1
  have u9 : part k * v i j ≤ 81 * 9 := Nat.mul_le_mul pk a9
  have d9 : part j * v i k ≤ 81 * 9 := Nat.mul_le_mul pj b9
  have c1 : pz (part j : Int) * pz (v i k : Int) = pz ((part j * v i k : Nat) : Int) := by rw [pz_mul]; simp
  have c2 : pz (part k : Int) * pz (v i j : Int) = pz ((part k * v i j : Nat) : Int) := by rw [pz_mul]; simp
  unfold f_R_tie
  simp only [pr_valueOf (show i < 3 by omega) j3 (r6 i j hi hj), pr_valueOf (show i < 3 by omega) k3 (r6 i k hi hk), Option.bind_some, pz_g j3, pz_g k3, pz_c (n := j) (by omega), pz_c (n := k) (by omega), hgr j j3, hgr k k3, nI_eq (show grp j < 2 ^ 31 by omega) (show grp k < 2 ^ 31 by omega), hp j j3, hp k k3, pz_nI (show v i j < 2 ^ 31 by omega), pz_nI (show v i k < 2 ^ 31 by omega), c1, c2]
  by_cases hgk : grp j = grp k
  · rw [if_pos hgk, pz_cmp (pe_R (show part j * v i k < 2 ^ 62 by omega)) (pe_R (show part k * v i j < 2 ^ 62 by omega))]
    refine ⟨decide (part j * v i k = part k * v i j), part, grp, vpt, vgr, ?_, hp, hgr, hG, fun _ => hgk, fun x y _ _ h => h, fun q hq hc he => ⟨?_, hc⟩⟩
    · by_cases h : part j * v i k = part k * v i j
      · rw [h]; simp; rfl
      · rw [decide_eq_false h]
        have h' : ¬ ((part j * v i k : Nat) : Int) = ((part k * v i j : Nat) : Int) := by omega
        rw [if_neg h', if_neg (by split <;> decide)]; rfl
    · rw [decide_eq_true_iff]
      have e1 := hc j k j3 k3 hgk
      have : (part j * v i k) * q k = (part k * v i j) * q k := by
        calc (part j * v i k) * q k = v i k * (part j * q k) := by ac_rfl
          _ = v i k * (part k * q j) := by rw [e1]
          _ = part k * (v i k * q j) := by ac_rfl
          _ = part k * (v i j * q k) := by rw [he]
          _ = _ := by ac_rfl
      exact Nat.eq_of_mul_eq_mul_right (hq k k3) this
  · rw [if_neg hgk]
    have up0 : 0 < part k * v i j := Nat.mul_pos (by omega) hvj
    have dn0 : 0 < part j * v i k := Nat.mul_pos (by omega) hvk
    rw [pe_divisor (show part k * v i j < 2 ^ 62 by omega) (show part j * v i k < 2 ^ 61 by omega), Option.bind_some]
    generalize hup : part k * v i j = up at *
    generalize hdn : part j * v i k = dn at *
    have hd : 0 < Nat.gcd up dn := Nat.gcd_pos_of_pos_left _ up0
    have hdu := Nat.gcd_dvd_left up dn
    have hdd := Nat.gcd_dvd_right up dn
    generalize Nat.gcd up dn = d at *
    have hdl : d ≤ up := Nat.le_of_dvd up0 hdu
    have hd0 : ¬ pz (d : Int) = 0 := fun q => by
      rw [pz_0, pz_eq (pe_R (by omega)) (by constructor <;> decide)] at q; omega
    have us : 1 ≤ up / d := Nat.div_pos hdl hd
    have ds : 1 ≤ dn / d := Nat.div_pos (Nat.le_of_dvd dn0 hdd) hd
    have ul : up / d ≤ up := Nat.div_le_self _ _
    have dl : dn / d ≤ dn := Nat.div_le_self _ _
    have q1 : pz (up : Int) / pz (d : Int) = pz ((up / d : Nat) : Int) := by rw [pz_div (pe_R (by omega)) (pe_R (by omega)) (by omega)]; simp
    have q2 : pz (dn : Int) / pz (d : Int) = pz ((dn / d : Nat) : Int) := by rw [pz_div (pe_R (by omega)) (pe_R (by omega)) (by omega)]; simp
    rw [q1, q2]
    have s1 := @pr_scale rth rps rln vno vpa vpr vsp vli vop vpu vre vpt vgr vab vbe part grp (grp j) (up / d) hp (fun x hx => ⟨hgr x hx, (hG x hx).1⟩) gj
    have s2 := @pr_scale rth rps rln vno vpa vpr vsp vli vop vpu vre (fun x => if x < 3 then pz ((if grp x = grp j then part x * (up / d) else part x : Nat) : Int) else vpt x) vgr vab vbe (fun x => if grp x = grp j then part x * (up / d) else part x) grp (grp k) (dn / d) (fun x hx => if_pos hx) (fun x hx => ⟨hgr x hx, (hG x hx).1⟩) gk
    have s3 : gq_it 1000000 (fb_R_tie_133 vgr (nI j) (nI k)) (0, vgr) = some (fun x => if x < 3 then nI (pr_mg grp (grp j) (grp k) x) else vgr x) := by
      refine pz_for (fun y => (nI y, fun x => if x < y then nI (pr_mg grp (grp j) (grp k) x) else vgr x)) 0 3 (by omega) (by omega) (fun y _ hy => ?_) ?_
      · have u := @pz_updI (fun x => nI (pr_mg grp (grp j) (grp k) x)) vgr y
        simp only [fb_R_tie_133, if_neg (show ¬ (3 : Int32) ≤ nI y from nI_ge (b := 3) hy (by omega)), pz_g hy, pz_c (n := y) (by omega), pz_c (n := j) (by omega), pz_c (n := k) (by omega), nI_1, Nat.lt_irrefl, if_false, hgr y hy, hgr j j3, hgr k k3, nI_eq (show grp y < 2 ^ 31 by have := (hG y hy).1; omega) (show grp k < 2 ^ 31 by omega)]
        by_cases h : grp y = grp k
        · rw [if_pos h]
          rw [show nI (pr_mg grp (grp j) (grp k) y) = nI (grp j) by unfold pr_mg; rw [if_pos h]] at u
          rw [u]
        · rw [if_neg h]
          rw [show nI (pr_mg grp (grp j) (grp k) y) = nI (grp y) by unfold pr_mg; rw [if_neg h]] at u
          rw [u]
      · simp only [fb_R_tie_133]
        rw [if_pos (show (3 : Int32) ≤ nI 3 from nI_le (a := 3) (Nat.le_refl 3) (by omega))]
    unfold gq_z
    simp only [if_neg hd0, s1, Option.bind_some, s2, s3]
    have hsz := @pr_sz_mg grp (grp j) (grp k) hgk
    have hsj := @pr_sz_pos grp j j3
    have hsk := @pr_sz_pos grp k k3
    refine ⟨true, (fun x => if grp x = grp k then (if grp x = grp j then part x * (up / d) else part x) * (dn / d) else (if grp x = grp j then part x * (up / d) else part x)), pr_mg grp (grp j) (grp k), _, _, rfl, fun x hx => if_pos hx, fun x hx => if_pos hx, ?_, fun _ => ?_, fun x y hx hy h => ?_, fun q hq hc he => ⟨rfl, ?_⟩⟩
    · intro x hx
      obtain ⟨x1, x2, x3⟩ := hG x hx
      have hmg : pr_mg grp (grp j) (grp k) x = if grp x = grp k then grp j else grp x := rfl
      by_cases hk' : grp x = grp k
      · have hne : ¬ grp x = grp j := fun q => hgk (by rw [← q, hk'])
        rw [hmg, if_pos hk', hsz.1]
        simp only [if_pos hk', if_neg hne]
        refine ⟨gj, Nat.mul_pos x2 ds, ?_⟩
        rw [hk'] at x3
        have : part x * (dn / d) ≤ 9 ^ (pr_sz grp (grp k) - 1) * (9 ^ (pr_sz grp (grp j) - 1) * 9) := Nat.mul_le_mul x3 (Nat.le_trans dl (by rw [← hdn]; exact Nat.mul_le_mul (hG j j3).2.2 b9))
        rw [← Nat.pow_succ, ← Nat.pow_add] at this
        rw [show pr_sz grp (grp j) + pr_sz grp (grp k) - 1 = pr_sz grp (grp k) - 1 + (pr_sz grp (grp j) - 1 + 1) by omega]
        exact this
      · rw [hmg, if_neg hk']
        simp only [if_neg hk']
        by_cases hj' : grp x = grp j
        · simp only [if_pos hj']
          rw [hj', hsz.1]
          refine ⟨gj, Nat.mul_pos x2 us, ?_⟩
          rw [hj'] at x3
          have : part x * (up / d) ≤ 9 ^ (pr_sz grp (grp j) - 1) * (9 ^ (pr_sz grp (grp k) - 1) * 9) := Nat.mul_le_mul x3 (Nat.le_trans ul (by rw [← hup]; exact Nat.mul_le_mul (hG k k3).2.2 a9))
          rw [← Nat.pow_succ, ← Nat.pow_add] at this
          rw [show pr_sz grp (grp j) + pr_sz grp (grp k) - 1 = pr_sz grp (grp j) - 1 + (pr_sz grp (grp k) - 1 + 1) by omega]
          exact this
        · simp only [if_neg hj']
          rw [hsz.2 (grp x) hj' hk']
          exact ⟨x1, x2, x3⟩
    · unfold pr_mg; rw [if_neg hgk, if_pos rfl]
    · unfold pr_mg; rw [h]
    · have cross : ∀ x y, x < 3 → y < 3 → grp x = grp j → grp y = grp k → part x * (up / d) * q y = part y * (dn / d) * q x := fun x y hx hy h1 h2 => by
        refine pr_cons3 hd hdu hdd ?_
        rw [← hup, ← hdn]
        exact pr_cons4 (hc x j hx j3 h1) (hc y k hy k3 h2) he
      intro x y hx hy hxy
      have hne : ∀ z, grp z = grp j → ¬ grp z = grp k := fun z h1 h2 => hgk (by rw [← h1, h2])
      have hne' : ∀ z, grp z = grp k → ¬ grp z = grp j := fun z h1 h2 => hgk (by rw [← h1, h2])
      have hxy' : (if grp x = grp k then grp j else grp x) = (if grp y = grp k then grp j else grp y) := hxy
      by_cases hxk : grp x = grp k
      · rw [if_pos hxk] at hxy'
        simp only [if_pos hxk, if_neg (hne' x hxk)]
        by_cases hyk : grp y = grp k
        · simp only [if_pos hyk, if_neg (hne' y hyk)]
          have := hc x y hx hy (by rw [hxk, hyk])
          calc part x * (dn / d) * q y = (dn / d) * (part x * q y) := by ac_rfl
            _ = (dn / d) * (part y * q x) := by rw [this]
            _ = _ := by ac_rfl
        · rw [if_neg hyk] at hxy'
          simp only [if_neg hyk, if_pos hxy'.symm]
          exact (cross y x hy hx hxy'.symm hxk).symm
      · rw [if_neg hxk] at hxy'
        simp only [if_neg hxk]
        by_cases hyk : grp y = grp k
        · rw [if_pos hyk] at hxy'
          simp only [if_pos hyk, if_neg (hne' y hyk), if_pos hxy']
          exact cross x y hx hy hxy' hyk
        · rw [if_neg hyk] at hxy'
          simp only [if_neg hyk, hxy']
          have := hc x y hx hy hxy'
          by_cases hyj : grp y = grp j
          · simp only [if_pos hyj]
            calc part x * (up / d) * q y = (up / d) * (part x * q y) := by ac_rfl
              _ = (up / d) * (part y * q x) := by rw [this]
              _ = _ := by ac_rfl
          · simp only [if_neg hyj]; exact this
