/-! Pure part 36: the rounds of solve and test. -/
theorem ps_bnd {nb ng : Nat} {m : Nat → Nat} {v : Nat → Nat → Nat} {a d : Nat → Int} (hg : ng ≤ 3) (h : ps_Ok nb ng m v a d) : 1 ≤ pd_U d ng ∧ pd_U d ng ≤ 14348907 ∧ (∀ j, pd_c a d ng j ≤ 286978140) ∧ (∀ j, ng ≤ j → pd_c a d ng j = 0) ∧ (∀ j, j < ng → 1 ≤ pd_pr d j ng) := by
  obtain ⟨hF, hb⟩ := h
  have hpr : ∀ j, j < ng → 1 ≤ pd_pr d j ng ∧ pd_pr d j ng ≤ 243 * 243 := fun j hj => pd_pr_c (by omega) hg hj (fun x hx => ⟨(hb x hx).1, (hb x hx).2.1⟩)
  have hUb := @pd_pr_b d 3 243 (by omega) ng (fun x hx => ⟨(hb x hx).1, (hb x hx).2.1⟩)
  have hU3 : (243 : Int) ^ ng ≤ 14348907 := by
    rcases (by omega : ng = 0 ∨ ng = 1 ∨ ng = 2 ∨ ng = 3) with rfl | rfl | rfl | rfl <;> decide
  refine ⟨by unfold pd_U; omega, by unfold pd_U; omega, fun j => ?_, fun j hj => by unfold pd_c; rw [if_neg (by omega)], fun j hj => (hpr j hj).1⟩
  unfold pd_c
  by_cases hj : j < ng
  · rw [if_pos hj]
    have h1 := hb j hj
    have h2 := hpr j hj
    exact Int.mul_le_mul h1.2.2.2 h2.2 (by omega) (by omega)
  · rw [if_neg hj]; omega
theorem pd_Rel_l {nb ng : Nat} {v : Nat → Nat → Nat} {c : Nat → Int} {dli : Nat → Int32} (hg : ng ≤ 3) (hR : pm_rdy nb ng v) (hc : ∀ j, j < ng → 0 < c j) (hl : ∀ i, i < nb → dli i = nI (pd_l ng v c i)) : pd_Rel nb (mq_L nb ng (fun i j => v i j) c) dli (pd_l ng v c) := fun i hi => ⟨hl i hi, pd_l_lt hg, fun j hj => pd_l_eq hg hi hj hc (hR.2.2.1 i hi)⟩
theorem pm_R_flag {nb ng : Nat} {m : Nat → Nat} {v : Nat → Nat → Nat} {vno : Nat → Int32} {x : Int32} (h : pm_R nb ng m v vno) : pm_R nb ng m v (upd vno 2 x) := by
  obtain ⟨r0, r1, r3, r6⟩ := h
  exact ⟨by rw [pz_updn (by omega)]; exact r0, by rw [pz_updn (by omega)]; exact r1, fun i hi => by rw [pz_updn (by omega)]; exact r3 i hi, fun i j hi hj => by rw [pz_updn (by omega)]; exact r6 i j hi hj⟩
theorem po_solve {rth rps : Int32} {rln : Int64} {vno vpa : Nat → Int32} {vpr vsp : Nat → Int64} {vli vop : Nat → Int32} {vpu vre vpt : Nat → Int64} {vgr vab vbe : Nat → Int32} {krg : Nat → Option Nat} {kno kun : Int32} {mbu mgo : Nat → Int32} {mpu mwo : Nat → Nat → Int32} {mso : Nat → Int32} {mun : Nat → Int64} {pab pbe hsh : Nat → Nat → Int64} {tab tbe oar : Nat → Int64} {c : Nat} {dbu dgo : Int32} {dun : Int64} {dco dfu : Nat → Int64} {dli : Nat → Int32} {sgr : Nat → Int32} {swe : Nat → Int64} (hI : pzI kno kun mbu mgo mpu mwo mso mun pab pbe hsh tab tbe rps rln vno vpa vpr vsp vli vab vbe) (hc : c < 9) (hk : kno = nI c) :
    ∃ r, fi_solve krg kno kun dbu dgo dun dco dfu dli sgr swe rth rps rln vno vpa vpr vsp vli vop vpu vre vpt vgr vab vbe mbu mgo mpu mwo mso mun pab pbe hsh c = some r ∧ pzI kno kun mbu mgo mpu mwo (pu mso c r.2.2.2.2.2.2.2.2.2.2.2.2.2.2.2.2.2.2.2.1) (pu mun c r.2.2.2.2.2.2.2.2.2.2.2.2.2.2.2.2.2.2.2.2.1) (pu pab c r.2.2.2.2.2.2.2.2.2.2.2.2.2.2.2.2.2.2.2.2.2.1) (pu pbe c r.2.2.2.2.2.2.2.2.2.2.2.2.2.2.2.2.2.2.2.2.2.2.1) (pu hsh c r.2.2.2.2.2.2.2.2.2.2.2.2.2.2.2.2.2.2.2.2.2.2.2) tab tbe rps r.2.2.2.2.2.2.2.2.2.1 r.2.2.2.2.2.2.2.2.2.2.1 vpa r.2.2.2.2.2.2.2.2.2.2.2.1 r.2.2.2.2.2.2.2.2.2.2.2.2.1 r.2.2.2.2.2.2.2.2.2.2.2.2.2.1 vab vbe := by
  subst hk
  have hI' := hI
  obtain ⟨c', u, hc', hu, hk', hku, hrp, ⟨nb, ng, m, v, hB, hSr⟩, hK, hT⟩ := hI
  have ec : c = c' := (nI_eq (by omega) (by omega)).mp hk'
  subst ec
  subst hku hrp
  have hB' := hB
  obtain ⟨hA, h1, h2, h3, h4, hr, h6⟩ := hB
  have hA' := hA
  have hr' := hr
  obtain ⟨r0, r1, r3, r6⟩ := hr
  obtain ⟨hb, hg, hm1, hm0, hv9, hv0⟩ := hA
  have e1 := @pk_ready nb ng c krg (nI u) (mso c) (mun c) (mpu c) (mwo c) m v hA' hc' (fun i j hi hj => h4 i j (by omega) (by omega))
  have hlt := @rd_N_lt nb ng v hb hg
  have hnk : ∀ k, 1 ≤ k → k ≤ u → (c + 9 - k) % 9 ≠ c := fun k h1 h2 => by omega
  unfold fi_solve f_L_solve f_K_solve f_K_needReady f_R_solve f_R_thrown
  rw [h1, h2, e1, pr_readiness hA' hr']
  simp only [Option.bind_some]
  by_cases hz : rd_N nb ng v = 0
  · have hR := rd_N0.mp hz
    rw [hz]
    simp only [if_pos (show nI 0 = 0 from rfl), Option.bind_some, gq_e, pz_g hc']
    obtain ⟨r, f1, U, p, f2⟩ := @pr_find 0 (nI u) rln vno vpa vpr vsp vli vop vpu vre vpt vgr vab vbe nb ng m v hA' hr' hR
    have hSr' : pm_Sr nb ng m v r.1 r.2.1 r.2.2.1 r.2.2.2.1 := ⟨U, p, f2⟩
    rcases h6 with ⟨s0, w0⟩ | ⟨s1, w1, hSv⟩
    · obtain ⟨sgr', swe', dbu', dgo', dun', dco', dfu', dli', pab', pbe', g1, a, d, hOk, ⟨g2, g3, g4, g5, g6, g7⟩, g8⟩ := @ps_finds nb ng m v (mso c) dbu dgo (mun c) dun (mpu c) (mwo c) sgr dli swe dco dfu (pab c) (pbe c) hA' hR h3 (fun i j hi hj => h4 i j (by omega) (by omega))
      obtain ⟨b1, b2, b3, b4, b5⟩ := ps_bnd hg hOk
      have hrel := pd_Rel_l hg hR hOk.1.2.1 g7
      subst g2 g3
      obtain ⟨x, d1, d2⟩ := @pd_divideInto nb ng dun' dco' dfu' dli' (hsh c) (pd_c a d ng) (fun i => pd_U d ng * m i) (pd_l ng v (pd_c a d ng)) (mq_L nb ng (fun i j => v i j) (pd_c a d ng)) hb hg g5 g6 hrel mq_L_0b mq_L_0g (pf_I0 hA' hOk.1 b2 (fun j => by have := b3 j; omega))
      simp only [if_pos s0, g1, Option.bind_some, if_neg (show ¬ (1 : Int32) = 0 by decide), d1, f1, pz_g2 (show 2 < 15 by omega) (by omega), pz_t2, if_true]
      refine ⟨_, rfl, ?_⟩
      dsimp only
      refine ⟨c, u, hc', hu, rfl, rfl, rfl, ⟨nb, ng, m, v, ⟨hA', h1, h2, h3, h4, pm_R_flag hr', Or.inr ⟨pu_s, pz_upds, ?_⟩⟩, fun _ => hSr'⟩, fun k k1 k2 => ?_, hT⟩
      · rw [pu_s, pu_s, pu_s, pu_s]
        exact ⟨hR, a, d, hOk, g4, g8, d2⟩
      · rw [pu_n (hnk k k1 k2), pu_n (hnk k k1 k2), pu_n (hnk k k1 k2), pu_n (hnk k k1 k2), pu_n (hnk k k1 k2)]
        exact hK k k1 k2
    · simp only [if_neg (show ¬ mso c = 0 by rw [s1]; decide), f1, Option.bind_some, pz_g2 (show 2 < 15 by omega) (by omega), pz_t2, if_true]
      refine ⟨_, rfl, ?_⟩
      dsimp only
      refine ⟨c, u, hc', hu, rfl, rfl, rfl, ⟨nb, ng, m, v, ⟨hA', h1, h2, h3, h4, pm_R_flag hr', Or.inr ⟨?_, pz_upds, ?_⟩⟩, fun _ => hSr'⟩, fun k k1 k2 => ?_, hT⟩
      · rw [pu_s]; exact s1
      · rw [pu_s, pu_s, pu_s, pu_s]; exact hSv
      · rw [pu_n (hnk k k1 k2), pu_n (hnk k k1 k2), pu_n (hnk k k1 k2), pu_n (hnk k k1 k2), pu_n (hnk k k1 k2)]
        exact hK k k1 k2
  · have hne : ¬ nI (rd_N nb ng v) = 0 := nI_ne0 (by omega) (by omega)
    simp only [if_neg hne, Option.bind_some, gq_e, if_true]
    refine ⟨_, rfl, ?_⟩
    simp only [pu_id]
    exact hI'
theorem pr_testLine {rth rps : Int32} {rln : Int64} {vno vpa : Nat → Int32} {vpr vsp : Nat → Int64} {vli vop : Nat → Int32} {vpu vre vpt : Nat → Int64} {vgr vab vbe : Nat → Int32} {ng : Nat} {tb : Nat → Nat} (hg : ng ≤ 3) (hn : vno 1 = nI ng) (ht : ∀ j, j < 3 → vbe j = nI (tb j) ∧ tb j ≤ 100000) : gq_it 1000000 (fb_R_test_61 rps vno vpa vpr vsp vli vop vpu vre vpt vgr vab vbe) (0, 1) = some (pz (pd_U (fun j => (tb j : Int)) ng)) := by
  refine pz_for (fun k => (nI k, pz (pd_pr (fun j => (tb j : Int)) 3 k))) 0 ng (by omega) (by omega) (fun k _ hk => ?_) ?_
  · obtain ⟨t1, t2⟩ := ht k (by omega)
    simp only [fb_R_test_61, pr_goods hn, Option.bind_some, if_neg (pz_ge hk hg), pz_g (show k < 3 by omega), pz_c (n := k) (by omega), t1, pz_nI (show tb k < 2 ^ 31 by omega), pz_mul, nI_1, pd_pr, if_neg (show ¬ k = 3 by omega)]
  · simp only [fb_R_test_61, pr_goods hn, Option.bind_some, if_pos (pz_le' (Nat.le_refl ng) hg)]; rfl
theorem pr_testPrices {rth rps : Int32} {rln : Int64} {vno vpa : Nat → Int32} {vpr vsp : Nat → Int64} {vli vop : Nat → Int32} {vpu vre vpt : Nat → Int64} {vgr vab vbe : Nat → Int32} {ng : Nat} {ta tb : Nat → Nat} (hg : ng ≤ 3) (hn : vno 1 = nI ng) (ht : ∀ j, j < 3 → vbe j = nI (tb j) ∧ 1 ≤ tb j ∧ tb j ≤ 100000 ∧ vab j = nI (ta j) ∧ ta j ≤ 100000) (hU : pd_U (fun j => (tb j : Int)) ng ≤ 1000000000000000 ∧ 0 ≤ pd_U (fun j => (tb j : Int)) ng) : gq_it 1000000 (fb_R_test_96 rps vno vpa vsp vli vop vpu vre vpt vgr vab vbe (pz (pd_U (fun j => (tb j : Int)) ng))) (0, vpr) = some (fun j => if j < ng then pz (pd_c (fun j => (ta j : Int)) (fun j => (tb j : Int)) ng j) else vpr j) := by
  refine pz_for (fun k => (nI k, fun j => if j < k then pz (pd_c (fun j => (ta j : Int)) (fun j => (tb j : Int)) ng j) else vpr j)) 0 ng (by omega) (by omega) (fun k _ hk => ?_) ?_
  · obtain ⟨t1, t2, t3, t4, t5⟩ := ht k (by omega)
    have hb0 : ¬ pz (tb k : Int) = 0 := fun q => by
      rw [pz_0, pz_eq (pe_R (by omega)) (by constructor <;> decide)] at q; omega
    have ep : pz (pd_U (fun j => (tb j : Int)) ng) / pz (tb k : Int) * pz (ta k : Int) = pz (pd_c (fun j => (ta j : Int)) (fun j => (tb j : Int)) ng k) := by
      rw [pz_div (by constructor <;> omega) (pe_R (by omega)) hU.2, pz_mul]
      unfold pd_c
      rw [if_pos hk]
      have := @pd_pr_mul (fun j => (tb j : Int)) ng k hg hk
      dsimp only at this ⊢
      rw [← this, Int.mul_ediv_cancel _ (by omega), Int.mul_comm]
    have up := @pz_updL (fun j => pz (pd_c (fun j => (ta j : Int)) (fun j => (tb j : Int)) ng j)) vpr k
    simp only [fb_R_test_96, pr_goods hn, Option.bind_some, if_neg (pz_ge hk hg), pz_g (show k < 3 by omega), pz_c (n := k) (by omega), t1, t4, pz_nI (show tb k < 2 ^ 31 by omega), pz_nI (show ta k < 2 ^ 31 by omega), gq_z, if_neg hb0, ep, nI_1]
    rw [up]
  · simp only [fb_R_test_96, pr_goods hn, Option.bind_some, if_pos (pz_le' (Nat.le_refl ng) hg)]
/-- the desk's test is the reference's judge -/
theorem pf_test {nb ng : Nat} {m : Nat → Nat} {v : Nat → Nat → Nat} {U : Int} {c : Nat → Int} (hA : pm_A nb ng m v) (hR : pm_rdy nb ng v) (hc : ∀ j, j < ng → 0 < c j) (hc0 : ∀ j, ng ≤ j → c j = 0) :
    pr_J ng (mq_L nb ng (fun i j => v i j) c) (fun i => U * m i) c = if pz_s (fun i => U * (m i : Int)) nb = pz_s c ng then (pz_fst (fun s => decide (mq_c (fun i => U * (m i : Int)) (mq_g (mq_L nb ng (fun i j => v i j) c) (pz_S s)) < mq_c c (pz_S s))) (2 ^ ng - 1) 1).elim 0 nI else -1 := by
  obtain ⟨hb, hg, hm1, hm0, hv9, hv0⟩ := hA
  obtain ⟨-, hg0, hr1, hr2⟩ := hR
  have hall : ∀ j, j < ng → pz_S (2 ^ ng - 1) j = true := by
    have : ∀ g, g ≤ 3 → ∀ j, j < g → pz_S (2 ^ g - 1) j = true := by decide
    exact this ng hg
  have e1 : mq_c c (pz_S (2 ^ ng - 1)) = mq_s c := mq_s_all (fun a ha => by
    by_cases h : a < ng
    · exact Or.inr (hall a h)
    · exact Or.inl (hc0 a (by omega)))
  have e2 : mq_c (fun i => U * (m i : Int)) (mq_g (mq_L nb ng (fun i j => (v i j : Int)) c) (pz_S (2 ^ ng - 1))) = mq_s (fun i => U * (m i : Int)) := by
    refine mq_s_all (fun a ha => ?_)
    by_cases h : a < nb
    · obtain ⟨j, j1, j2⟩ := pf_best h hc (hr1 a h)
      exact Or.inr (mq_g_in (show j < 3 by omega) (hall j j1) j2)
    · left; rw [hm0 a (by omega)]; simp
  have e3 : pz_s c ng = mq_s c := pz_s3 hg (fun j h1 _ => hc0 j h1)
  have e4 : pz_s (fun i => U * (m i : Int)) nb = mq_s (fun i => U * (m i : Int)) := pz_s3 hb (fun j h1 _ => by simp [hm0 j h1])
  unfold pr_J
  rw [e1, e2, e3, e4]
  by_cases h : mq_s c = mq_s (fun i => U * (m i : Int))
  · rw [if_pos h, if_pos h.symm]
  · rw [if_neg h, if_neg (fun q => h q.symm)]
theorem po_test {rth rps : Int32} {rln : Int64} {vno vpa : Nat → Int32} {vpr vsp : Nat → Int64} {vli vop : Nat → Int32} {vpu vre vpt : Nat → Int64} {vgr vab vbe : Nat → Int32} {krg : Nat → Option Nat} {kno kun : Int32} {mbu mgo : Nat → Int32} {mpu mwo : Nat → Nat → Int32} {mso : Nat → Int32} {mun : Nat → Int64} {pab pbe hsh : Nat → Nat → Int64} {tab tbe oar : Nat → Int64} {c : Nat} {dbu dgo : Int32} {dun : Int64} {dco dfu : Nat → Int64} {dli : Nat → Int32} (hI : pzI kno kun mbu mgo mpu mwo mso mun pab pbe hsh tab tbe rps rln vno vpa vpr vsp vli vab vbe) (hc : c < 9) (hk : kno = nI c) :
    ∃ r, fi_test krg kno kun tab tbe dbu dgo dun dco dfu dli rth rps rln vno vpa vpr vsp vli vop vpu vre vpt vgr vab vbe oar mbu mgo mpu mwo mso mun c = some r ∧ pzI kno kun mbu mgo mpu mwo mso mun pab pbe hsh tab tbe rps r.2.2.2.2.2.2.2.1 vno vpa r.2.2.2.2.2.2.2.2.1 vsp r.2.2.2.2.2.2.2.2.2.1 vab vbe := by
  subst hk
  have hI' := hI
  obtain ⟨c', u, hc', hu, hk', hku, hrp, ⟨nb, ng, m, v, hB, hSr⟩, hK, hT⟩ := hI
  have ec : c = c' := (nI_eq (by omega) (by omega)).mp hk'
  subst ec
  subst hku hrp
  have hB' := hB
  obtain ⟨hA, h1, h2, h3, h4, hr, h6⟩ := hB
  have hA' := hA
  have hr' := hr
  obtain ⟨r0, r1, r3, r6⟩ := hr
  obtain ⟨hb, hg, hm1, hm0, hv9, hv0⟩ := hA
  have e1 := @pk_ready nb ng c krg (nI u) (mso c) (mun c) (mpu c) (mwo c) m v hA' hc' (fun i j hi hj => h4 i j (by omega) (by omega))
  have hlt := @rd_N_lt nb ng v hb hg
  unfold fi_test f_L_test f_K_test f_K_needReady f_R_test f_R_thrown
  rw [h1, h2, e1, pr_readiness hA' hr']
  simp only [Option.bind_some]
  by_cases hz : rd_N nb ng v = 0
  · have hR := rd_N0.mp hz
    rw [hz]
    obtain ⟨ta, tb, hta⟩ := hT
    have hT' : pm_T tab tbe vab vbe := ⟨ta, tb, hta⟩
    have hdb : ∀ j, j < ng → 1 ≤ (tb j : Int) ∧ (tb j : Int) ≤ 100000 := fun j hj => by have := hta j (by omega); omega
    have hpr : ∀ j, j < ng → 1 ≤ pd_pr (fun j => (tb j : Int)) j ng ∧ pd_pr (fun j => (tb j : Int)) j ng ≤ 100000 * 100000 := fun j hj => pd_pr_c (by omega) hg hj hdb
    have hUb := @pd_pr_b (fun j => (tb j : Int)) 3 100000 (by omega) ng hdb
    have hU3 : (100000 : Int) ^ ng ≤ 1000000000000000 := by
      rcases (by omega : ng = 0 ∨ ng = 1 ∨ ng = 2 ∨ ng = 3) with rfl | rfl | rfl | rfl <;> decide
    have hU1 : 1 ≤ pd_U (fun j => (tb j : Int)) ng ∧ pd_U (fun j => (tb j : Int)) ng ≤ 1000000000000000 := by unfold pd_U; omega
    have hc0 : ∀ j, ng ≤ j → pd_c (fun j => (ta j : Int)) (fun j => (tb j : Int)) ng j = 0 := fun j hj => by unfold pd_c; rw [if_neg (by omega)]
    have hcb : ∀ j, j < ng → 0 < pd_c (fun j => (ta j : Int)) (fun j => (tb j : Int)) ng j ∧ pd_c (fun j => (ta j : Int)) (fun j => (tb j : Int)) ng j ≤ 1000000000000000 := fun j hj => by
      have q1 := hta j (by omega)
      have q2 := hpr j hj
      unfold pd_c
      rw [if_pos hj]
      refine ⟨Int.mul_pos (show (0 : Int) < (ta j : Int) by omega) (by omega), ?_⟩
      exact Int.le_trans (Int.mul_le_mul (show (ta j : Int) ≤ 100000 by omega) q2.2 (by omega) (by omega)) (by decide)
    have hlook := @pd_look nb ng dun (mun c) dbu dgo (mso c) dco dfu tab tbe dli (mpu c) (mwo c) m v (fun j => (ta j : Int)) (fun j => (tb j : Int)) hA' hR.2.1 h3 (fun i j hi hj => h4 i j (by omega) (by omega)) (fun j hj => (hta j (by omega)).2.2.2.2.1) (fun j hj => (hta j (by omega)).2.2.2.2.2.1) (fun k hk => by have := hcb k hk; omega)
    have hLn := @pr_testLine rth (nI u) rln vno vpa vpr vsp vli vop vpu vre vpt vgr vab vbe ng tb hg r1 (fun j hj => ⟨(hta j hj).2.2.2.2.2.2.2, (hta j hj).2.2.2.1⟩)
    have hPr := @pr_testPrices rth (nI u) rln vno vpa vpr vsp vli vop vpu vre vpt vgr vab vbe ng ta tb hg r1 (fun j hj => ⟨(hta j hj).2.2.2.2.2.2.2, (hta j hj).2.2.1, (hta j hj).2.2.2.1, (hta j hj).2.2.2.2.2.2.1, (hta j hj).2.1⟩) (by omega)
    generalize hcc : pd_c (fun j => (ta j : Int)) (fun j => (tb j : Int)) ng = cc at *
    generalize hUU : pd_U (fun j => (tb j : Int)) ng = U at *
    obtain ⟨x, j1, j2⟩ := @pr_judge 0 (nI u) (pz U) vno vpa (fun j => if j < ng then pz (cc j) else vpr j) vsp vli vop vpu vre vpt vgr vab vbe nb ng m v U cc hA' hr' rfl (fun j hj => if_pos hj) hc0 (fun j => by
      by_cases h : j < ng
      · have := hcb j h; omega
      · rw [hc0 j (by omega)]; omega) (by omega)
    have hR1 : pz_R (pz_s cc ng) := by
      rw [pz_s3 hg (fun j q1 _ => hc0 j q1)]
      have b : ∀ j, 0 ≤ cc j ∧ cc j ≤ 1000000000000000 := fun j => by
        by_cases h : j < ng
        · have := hcb j h; omega
        · rw [hc0 j (by omega)]; omega
      have b0 := b 0; have b1 := b 1; have b2 := b 2
      constructor <;> omega
    have hR2 : pz_R (pz_s (fun i => U * (m i : Int)) nb) := by
      rw [pz_s3 hb (fun j q1 _ => by simp [hm0 j q1])]
      have b : ∀ i, 0 ≤ U * (m i : Int) ∧ U * (m i : Int) ≤ 1000000000000000 * 20 := fun i => by
        have hm : (m i : Int) ≤ 20 := by
          by_cases h : i < nb
          · have := (hm1 i h).2; omega
          · rw [hm0 i (by omega)]; omega
        exact ⟨Int.mul_nonneg (by omega) (by omega), Int.mul_le_mul hU1.2 hm (by omega) (by omega)⟩
      have b0 := b 0; have b1 := b 1; have b2 := b 2
      constructor <;> omega
    have hsum := @pd_sumsAgree nb ng (pz U) (fun j => if j < ng then pz (cc j) else dco j) (fun i => if i < nb then pz (U * m i) else dfu i) (fun i => if i < nb then nI (pd_l ng v cc i) else dli i) cc (fun i => U * (m i : Int)) hb hg (fun j hj => if_pos hj) (fun i hi => if_pos hi) hR1 hR2
    have hftd := @pd_ftd nb ng m v U cc (pz U) (fun j => if j < ng then pz (cc j) else dco j) (fun i => if i < nb then pz (U * m i) else dfu i) (fun i => if i < nb then nI (pd_l ng v cc i) else dli i) hA' hR (fun j hj => if_pos hj) (fun i hi => if_pos hi) (fun i hi => if_pos hi) hcb hc0 (by omega)
    have hJ := @pf_test nb ng m v U cc hA' hR (fun j hj => (hcb j hj).1) hc0
    generalize hv3 : vp_updL (vp_updL (vp_updL (fun j => if j < ng then pz (cc j) else vpr j) 0 (vpr 0)) 1 (vpr 1)) 2 (vpr 2) = vpr3 at *
    have hvp : ∀ j, j < 3 → vpr3 j = vpr j := fun j hj => by
      rw [← hv3]; unfold vp_updL
      rcases (by omega : j = 0 ∨ j = 1 ∨ j = 2) with rfl | rfl | rfl <;> simp
    have hwr : ∀ (D : Int32 × Int32 × Int64 × (Nat → Int64) × (Nat → Int64) × (Nat → Int32)), (if (if pz_s (fun i => U * (m i : Int)) nb = pz_s cc ng then (1 : Int32) else 0) = 0 then (some (Sum.inl ((-1 : Int32), D)) : Option ((Int32 × Int32 × Int32 × Int64 × (Nat → Int64) × (Nat → Int64) × (Nat → Int32)) ⊕ String)) else some (Sum.inl ((pz_fst (fun s => decide (mq_c (fun i => U * (m i : Int)) (mq_g (mq_L nb ng (fun i j => v i j) cc) (pz_S s)) < mq_c cc (pz_S s))) (2 ^ ng - 1) 1).elim 0 nI, D))) = some (Sum.inl (pr_J ng (mq_L nb ng (fun i j => v i j) cc) (fun i => U * m i) cc, D)) := fun D => by
      rw [hJ]
      by_cases h : pz_s (fun i => U * (m i : Int)) nb = pz_s cc ng
      · rw [if_pos h, if_pos h, if_neg (by decide)]
      · rw [if_neg h, if_neg h, if_pos rfl]
    simp only [if_pos (show nI 0 = 0 from rfl), Option.bind_some, gq_e, pz_g hc', hlook, hsum, hftd, hwr, pz_g0 (show 0 < 1 by omega) (by omega), pz_g0 (show 0 < 3 by omega) (by omega), pz_g1 (show 1 < 3 by omega) (by omega), pz_g2 (show 2 < 3 by omega) (by omega), hLn, hPr, j1, pz_t0, pz_t1, pz_t2, pk_uLs, hv3]
    rcases h6 with ⟨s0, w0⟩ | ⟨s1, w1, hSv⟩
    · have hsv := fun a1 a2 a3 a4 a5 a6 a7 a8 a9 a10 a11 a12 a13 a14 => @pr_isSolved a1 a2 a3 vno a4 a5 a6 a7 a8 a9 a10 a11 a12 a13 a14 false w0
      simp only [hsv, Option.bind_some, if_pos (show pz_B false = 0 from rfl), pz_lgr, if_true]
      refine ⟨_, rfl, ?_⟩
      dsimp only
      refine ⟨c, u, hc', hu, rfl, rfl, rfl, ⟨nb, ng, m, v, hB', fun h => ?_⟩, hK, hT'⟩
      exact absurd (w0.symm.trans h) (by decide)
    · have hsv := fun a1 a2 a3 a4 a5 a6 a7 a8 a9 a10 a11 a12 a13 a14 => @pr_isSolved a1 a2 a3 vno a4 a5 a6 a7 a8 a9 a10 a11 a12 a13 a14 true w1
      obtain ⟨U2, p2, s2, s3, s4, s5, s6, s7, s8⟩ := hSr w1
      obtain ⟨y, y1, y2⟩ := @pr_findLikes 0 (nI u) rln vno vpa vpr3 vsp x vop vpu vre vpt vgr vab vbe nb ng m v p2 hA' hr' (fun j hj => by rw [hvp j (by omega)]; exact s3 j hj) (fun j hj => by
        have q1 := s4.2.1 j hj
        have q2 := s6 j
        omega)
      simp only [hsv, Option.bind_some, if_neg (show ¬ pz_B true = 0 by decide), y1, pz_lgr, if_true]
      refine ⟨_, rfl, ?_⟩
      dsimp only
      refine ⟨c, u, hc', hu, rfl, rfl, rfl, ⟨nb, ng, m, v, hB', fun h => ?_⟩, hK, hT'⟩
      exact ⟨U2, p2, s2, fun j hj => by rw [hvp j (by omega)]; exact s3 j hj, s4, s5, s6, y2, s8⟩
  · have hne : ¬ nI (rd_N nb ng v) = 0 := nI_ne0 (by omega) (by omega)
    simp only [if_neg hne, Option.bind_some, gq_e, if_true, if_neg (show ¬ (1 : Int32) = 0 by decide)]
    exact ⟨_, rfl, hI'⟩
/-! Pure part 37: the rounds of price, best, likes, spent. -/
theorem pe_lowZ {x y x' y' : Int} (w : Int32) (h1 : 0 ≤ x ∧ x < 4611686018427387904) (h2 : 0 < y ∧ y < 35184372088832) (h3 : 0 ≤ x' ∧ x' < 4611686018427387904) (h4 : 0 < y' ∧ y' < 2305843009213693952) (he : x * y' = x' * y) : ∃ z, f_K_lowest (pz x) (pz y) w = some z ∧ f_R_lowest (pz x') (pz y') w = some z := by
  have ex : ((x.toNat : Nat) : Int) = x := Int.toNat_of_nonneg h1.1
  have ey : ((y.toNat : Nat) : Int) = y := Int.toNat_of_nonneg (by omega)
  have ex' : ((x'.toNat : Nat) : Int) = x' := Int.toNat_of_nonneg h3.1
  have ey' : ((y'.toNat : Nat) : Int) = y' := Int.toNat_of_nonneg (by omega)
  have e : x.toNat * y'.toNat = x'.toNat * y.toNat := by
    have : ((x.toNat * y'.toNat : Nat) : Int) = ((x'.toNat * y.toNat : Nat) : Int) := by
      rw [Int.natCast_mul, Int.natCast_mul, ex, ey, ex', ey']; exact he
    omega
  have k := @pe_lowestK x.toNat y.toNat w (by omega) (by omega) (by omega)
  have r := @pe_lowestR x'.toNat y'.toNat w (by omega) (by omega) (by omega)
  rw [ex, ey] at k
  rw [ex', ey'] at r
  refine ⟨_, k, ?_⟩
  rw [r, pe_same (show 0 < y.toNat by omega) (show 0 < y'.toNat by omega) e]
/-- desk and reference at a solved market: prices in proportion -/
theorem pq_one {nb ng : Nat} {m : Nat → Nat} {v : Nat → Nat → Nat} {a d : Nat → Int} {U : Int} {p : Nat → Int} (hA : pm_A nb ng m v) (hOk : ps_Ok nb ng m v a d) (hF : mq_F nb ng (fun i j => v i j) (fun i => m i) U p) : (∀ j, pd_c a d ng j * U = p j * pd_U d ng) ∧ (∀ j, j < ng → a j * U = p j * d j) ∧ mq_L nb ng (fun i j => (v i j : Int)) (pd_c a d ng) = mq_L nb ng (fun i j => (v i j : Int)) p := by
  have hg := hA.2.1
  obtain ⟨b1, b2, b3, b4, b5⟩ := ps_bnd hg hOk
  have h1 : ∀ j, pd_c a d ng j * U = p j * pd_U d ng := fun j => by
    by_cases h : j < 3
    · exact mq_one (m := fun i => (m i : Int)) (fun i _ => by omega) hOk.1 hF j h
    · rw [b4 j (by omega), hF.2.2.1 j (by omega)]; simp
  refine ⟨h1, fun j hj => ?_, mq_L_congr (by omega) hF.1 (fun j _ => h1 j)⟩
  have e := h1 j
  have q := @pd_pr_mul d ng j hg hj
  unfold pd_c at e
  rw [if_pos hj, ← q] at e
  have hpos := b5 j hj
  have : (a j * U) * pd_pr d j ng = (p j * d j) * pd_pr d j ng := by
    calc (a j * U) * pd_pr d j ng = a j * pd_pr d j ng * U := by simp only [Int.mul_comm, Int.mul_left_comm, Int.mul_assoc]
      _ = p j * (pd_pr d j ng * d j) := e
      _ = _ := by simp only [Int.mul_comm, Int.mul_left_comm, Int.mul_assoc]
  exact Int.eq_of_mul_eq_mul_right (by omega) this
theorem pk_solved0 {krg : Nat → Option Nat} {kun mbu mgo : Int32} {mun : Int64} {mpu mwo : Nat → Int32} {c : Nat} {so : Int32} (hc : c < 9) (h : so = 0) : f_K_needSolved krg (nI c) kun mbu mgo mpu mwo so mun = some (.inr "java/lang/IllegalStateException") := by
  unfold f_K_needSolved; rw [pz_g hc, if_pos h]
theorem pk_solved1 {krg : Nat → Option Nat} {kun mbu mgo : Int32} {mun : Int64} {mpu mwo : Nat → Int32} {c : Nat} {so : Int32} (hc : c < 9) (h : so = 1) : f_K_needSolved krg (nI c) kun mbu mgo mpu mwo so mun = some (.inl ()) := by
  unfold f_K_needSolved; rw [pz_g hc, if_neg (by rw [h]; decide)]
theorem po_price {rth rps : Int32} {rln : Int64} {vno vpa : Nat → Int32} {vpr vsp : Nat → Int64} {vli vop : Nat → Int32} {vpu vre vpt : Nat → Int64} {vgr vab vbe : Nat → Int32} {krg : Nat → Option Nat} {kno kun : Int32} {mbu mgo : Nat → Int32} {mpu mwo : Nat → Nat → Int32} {mso : Nat → Int32} {mun : Nat → Int64} {pab pbe hsh : Nat → Nat → Int64} {tab tbe oar : Nat → Int64} {c : Nat} {a b : Int32} (hI : pzI kno kun mbu mgo mpu mwo mso mun pab pbe hsh tab tbe rps rln vno vpa vpr vsp vli vab vbe) (hc : c < 9) (hk : kno = nI c) : ∃ r, fi_price krg kno kun rth rps rln vno vpa vpr vsp vli vop vpu vre vpt vgr vab vbe oar mbu mgo mpu mwo mso mun pab pbe c a b = some r := by
  subst hk
  have hI' := hI
  obtain ⟨c', u, hc', hu, hk', hku, hrp, ⟨nb, ng, m, v, hB, hSr⟩, hK, hT⟩ := hI
  have ec : c = c' := (nI_eq (by omega) (by omega)).mp hk'
  subst ec
  subst hku hrp
  have hB' := hB
  obtain ⟨hA, h1, h2, h3, h4, hr, h6⟩ := hB
  have hA' := hA
  have hr' := hr
  obtain ⟨r0, r1, r3, r6⟩ := hr
  obtain ⟨hb, hg, hm1, hm0, hv9, hv0⟩ := hA
  have nIS : ¬ "java/lang/IndexOutOfBoundsException" = "java/lang/IllegalStateException" := by decide
  have key : ∀ w : Int32, ∃ r, (f_L_price krg (nI c) (nI u) (mbu c) (mgo c) (mpu c) (mwo c) (mso c) (mun c) (pab c) (pbe c) oar a w).bind (fun x2 => (f_R_price rth (nI u) rln vno vpa vpr vsp vli vop vpu vre vpt vgr vab vbe a w).bind (fun x5 => (f_R_thrown x5.2 (nI u) rln vno vpa vpr vsp vli vop vpu vre vpt vgr vab vbe).bind (fun x7 => (if x7 = x2.1 then (if x2.1 = 0 then gq_g 0 1 ((if (lg_cmp (x2.2 (Int32.toNatClampNeg 0)) x5.1) = 0 then some (x5.2, x2.2) else none)) else some (x5.2, x2.2)) else none)))) = some r := fun w => by
    unfold f_L_price f_K_price f_R_price f_R_thrown
    rcases h6 with ⟨s0, w0⟩ | ⟨s1, w1, hR, α, δ, hOk, q1, q2, q3⟩
    · rw [pk_solved0 hc' s0, pr_isSolved (b := false) w0]
      simp only [Option.bind_some, gq_e, if_true, if_pos (show pz_B false = 0 from rfl), if_neg (show ¬ (1 : Int32) = 0 by decide)]
      exact ⟨_, rfl⟩
    · rw [pk_solved1 hc' s1, pr_isSolved (b := true) w1, h2]
      simp only [Option.bind_some, gq_e, if_neg (show ¬ pz_B true = 0 by decide)]
      rcases pk_idx a hg with q | ⟨j, hj, rfl⟩
      · rw [(pk_needGood hc' hg a).1 q, (pr_isGood hg r1 a).1 q]
        simp only [Option.bind_some, gq_e, if_true, if_neg nIS, if_neg (show ¬ (2 : Int32) = 0 by decide)]
        exact ⟨_, rfl⟩
      · rw [(pk_needGood hc' hg (nI j)).2 j hj rfl, (pr_isGood hg r1 (nI j)).2 j hj rfl]
        obtain ⟨U, p, t2, t3, t4, t5, t6, t7, t8⟩ := hSr w1
        obtain ⟨-, o2, -⟩ := pq_one hA' hOk t4
        have b1 := hOk.2 j hj
        have p1 := t4.2.1 j hj
        have p2 := t6 j
        have p3 := t4.1
        obtain ⟨z, z1, z2⟩ := @pe_lowZ (α j) (δ j) (p j) U w (by omega) (by omega) (by omega) (by omega) (o2 j hj)
        simp only [Option.bind_some, gq_e, if_neg (show ¬ (1 : Int32) = 0 by decide), pz_g hc', pz_g (show j < 3 by omega), pz_c (n := j) (by omega), (q2 j hj).1, (q2 j hj).2, t2, t3 j hj, z1, z2, pz_g0 (show 0 < 1 by omega) (by omega), pz_t0, pk_uLs, pz_lgr, if_true]
        exact ⟨_, rfl⟩
  unfold fi_price
  by_cases h : b = 0
  · rw [if_pos h]; exact key 0
  · rw [if_neg h]; exact key 1
theorem pq_look {nb ng : Nat} {dun mun : Int64} {dbu dgo mso : Int32} {dco dfu pab pbe : Nat → Int64} {dli mpu mwo : Nat → Int32} {m : Nat → Nat} {v : Nat → Nat → Nat} {a d : Nat → Int} (hA : pm_A nb ng m v) (hR : pm_rdy nb ng v) (hm : ∀ i, i < nb → mpu i = nI (m i)) (hv : ∀ i j, i < nb → j < ng → mwo (3 * i + j) = nI (v i j))
    (hab : ∀ j, j < ng → pab j = pz (a j) ∧ pbe j = pz (d j)) (hOk : ps_Ok nb ng m v a d) :
    ∃ r, f_D_look dbu dgo dun dco dfu dli (nI nb) (nI ng) mpu mwo mso mun pab pbe = some r ∧ ∀ i, i < nb → r.2.2.2.2.2 i = nI (pd_l ng v (pd_c a d ng) i) := by
  obtain ⟨b1, b2, b3, b4, b5⟩ := ps_bnd hA.2.1 hOk
  rw [pd_look hA hR.2.1 hm hv (fun j hj => (hab j hj).1) (fun j hj => (hab j hj).2) (fun k hk => by
    have h1 := hOk.1.2.1 k hk
    have h2 := b3 k
    omega)]
  exact ⟨_, rfl, fun i hi => if_pos hi⟩
theorem po_likes {rth rps : Int32} {rln : Int64} {vno vpa : Nat → Int32} {vpr vsp : Nat → Int64} {vli vop : Nat → Int32} {vpu vre vpt : Nat → Int64} {vgr vab vbe : Nat → Int32} {krg : Nat → Option Nat} {kno kun : Int32} {mbu mgo : Nat → Int32} {mpu mwo : Nat → Nat → Int32} {mso : Nat → Int32} {mun : Nat → Int64} {pab pbe hsh : Nat → Nat → Int64} {tab tbe oar : Nat → Int64} {c : Nat} {dbu dgo : Int32} {dun : Int64} {dco dfu : Nat → Int64} {dli : Nat → Int32} {a b : Int32} (hI : pzI kno kun mbu mgo mpu mwo mso mun pab pbe hsh tab tbe rps rln vno vpa vpr vsp vli vab vbe) (hc : c < 9) (hk : kno = nI c) : ∃ r, fi_likes krg kno kun dbu dgo dun dco dfu dli rth rps rln vno vpa vpr vsp vli vop vpu vre vpt vgr vab vbe oar mbu mgo mpu mwo mso mun pab pbe c a b = some r := by
  subst hk
  have hI' := hI
  obtain ⟨c', u, hc', hu, hk', hku, hrp, ⟨nb, ng, m, v, hB, hSr⟩, hK, hT⟩ := hI
  have ec : c = c' := (nI_eq (by omega) (by omega)).mp hk'
  subst ec
  subst hku hrp
  have hB' := hB
  obtain ⟨hA, h1, h2, h3, h4, hr, h6⟩ := hB
  have hA' := hA
  have hr' := hr
  obtain ⟨r0, r1, r3, r6⟩ := hr
  obtain ⟨hb, hg, hm1, hm0, hv9, hv0⟩ := hA
  have nIS : ¬ "java/lang/IndexOutOfBoundsException" = "java/lang/IllegalStateException" := by decide
  unfold fi_likes f_L_likes f_K_likes f_R_likes f_R_thrown
  rcases h6 with ⟨s0, w0⟩ | ⟨s1, w1, hR, α, δ, hOk, q1, q2, q3⟩
  · rw [pk_solved0 hc' s0, pr_isSolved (b := false) w0]
    simp only [Option.bind_some, gq_e, if_true, if_pos (show pz_B false = 0 from rfl), if_neg (show ¬ (1 : Int32) = 0 by decide)]
    exact ⟨_, rfl⟩
  · rw [pk_solved1 hc' s1, pr_isSolved (b := true) w1, h1, h2]
    simp only [Option.bind_some, gq_e, if_neg (show ¬ pz_B true = 0 by decide)]
    rcases pk_idx a hb with q | ⟨i, hi, rfl⟩
    · rw [(pk_needBuyer hc' hb a).1 q, (pr_isBuyer hb r0 a).1 q]
      simp only [Option.bind_some, gq_e, if_true, if_neg nIS, if_neg (show ¬ (2 : Int32) = 0 by decide)]
      exact ⟨_, rfl⟩
    · rw [(pk_needBuyer hc' hb (nI i)).2 i hi rfl, (pr_isBuyer hb r0 (nI i)).2 i hi rfl]
      simp only [Option.bind_some, gq_e, if_neg (show ¬ (1 : Int32) = 0 by decide)]
      rcases pk_idx b hg with q | ⟨j, hj, rfl⟩
      · rw [(pk_needGood hc' hg b).1 q, (pr_isGood hg r1 b).1 q]
        simp only [Option.bind_some, gq_e, if_true, if_neg nIS, if_neg (show ¬ (2 : Int32) = 0 by decide)]
        exact ⟨_, rfl⟩
      · rw [(pk_needGood hc' hg (nI j)).2 j hj rfl, (pr_isGood hg r1 (nI j)).2 j hj rfl]
        obtain ⟨U, p, t2, t3, t4, t5, t6, t7, t8⟩ := hSr w1
        obtain ⟨-, -, o3⟩ := pq_one hA' hOk t4
        obtain ⟨x, x1, x2⟩ := @pq_look nb ng dun (mun c) dbu dgo (mso c) dco dfu (pab c) (pbe c) dli (mpu c) (mwo c) m v α δ hA' hR h3 (fun i j hi hj => h4 i j (by omega) (by omega)) q2 hOk
        have hbit := @pd_l_eq nb ng v (pd_c α δ ng) i j hg hi (by omega) hOk.1.2.1 (hR.2.2.1 i hi)
        rw [o3] at hbit
        have hl8 := @pd_l_lt ng v (pd_c α δ ng) i hg
        simp only [Option.bind_some, gq_e, if_neg (show ¬ (1 : Int32) = 0 by decide), pz_g hc', x1, pz_g (show i < 3 by omega), pz_c (n := i) (by omega), x2 i hi, pz_has' (show pd_l ng v (pd_c α δ ng) i < 512 by omega) (show j < 9 by omega), hbit, pz_cell2, pz_g (show 3 * i + j < 9 by omega), pz_c (n := 3 * i + j) (by omega), t7 i j hi hj]
        cases mq_L nb ng (fun i j => (v i j : Int)) p i j
        · exact ⟨_, rfl⟩
        · exact ⟨_, rfl⟩
theorem po_spent {rth rps : Int32} {rln : Int64} {vno vpa : Nat → Int32} {vpr vsp : Nat → Int64} {vli vop : Nat → Int32} {vpu vre vpt : Nat → Int64} {vgr vab vbe : Nat → Int32} {krg : Nat → Option Nat} {kno kun : Int32} {mbu mgo : Nat → Int32} {mpu mwo : Nat → Nat → Int32} {mso : Nat → Int32} {mun : Nat → Int64} {pab pbe hsh : Nat → Nat → Int64} {tab tbe oar : Nat → Int64} {c : Nat} {a b d e : Int32} (hI : pzI kno kun mbu mgo mpu mwo mso mun pab pbe hsh tab tbe rps rln vno vpa vpr vsp vli vab vbe) (hc : c < 9) (hk : kno = nI c) : ∃ r, fi_spent krg kno kun rth rps rln vno vpa vpr vsp vli vop vpu vre vpt vgr vab vbe oar mbu mgo mpu mwo mso mun pab pbe hsh c a b d e = some r := by
  subst hk
  have hI' := hI
  obtain ⟨c', u, hc', hu, hk', hku, hrp, ⟨nb, ng, m, v, hB, hSr⟩, hK, hT⟩ := hI
  have ec : c = c' := (nI_eq (by omega) (by omega)).mp hk'
  subst ec
  subst hku hrp
  have hB' := hB
  obtain ⟨hA, h1, h2, h3, h4, hr, h6⟩ := hB
  have hA' := hA
  have hr' := hr
  obtain ⟨r0, r1, r3, r6⟩ := hr
  obtain ⟨hb, hg, hm1, hm0, hv9, hv0⟩ := hA
  obtain ⟨t0, t1, t2', t3', t9, t20, t21, tk, tm⟩ := pk_t
  have nIS : ¬ "java/lang/IndexOutOfBoundsException" = "java/lang/IllegalStateException" := by decide
  have key : ∀ w : Int32, ∃ r, (f_L_spent krg (nI c) (nI u) (mbu c) (mgo c) (mpu c) (mwo c) (mso c) (mun c) (pab c) (pbe c) (hsh c) oar a b d w).bind (fun x2 => (f_R_spent rth (nI u) rln vno vpa vpr vsp vli vop vpu vre vpt vgr vab vbe a b d w).bind (fun x5 => (f_R_thrown x5.2 (nI u) rln vno vpa vpr vsp vli vop vpu vre vpt vgr vab vbe).bind (fun x7 => (if x7 = x2.1 then (if x2.1 = 0 then gq_g 0 1 ((if (lg_cmp (x2.2 (Int32.toNatClampNeg 0)) x5.1) = 0 then some (x5.2, x2.2) else none)) else some (x5.2, x2.2)) else none)))) = some r := fun w => by
    unfold f_L_spent f_K_spent f_R_spent f_R_thrown
    rcases h6 with ⟨s0, w0⟩ | ⟨s1, w1, hR, α, δ, hOk, q1, q2, q3⟩
    · rw [pk_solved0 hc' s0, pr_isSolved (b := false) w0]
      simp only [Option.bind_some, gq_e, if_true, if_pos (show pz_B false = 0 from rfl), if_neg (show ¬ (1 : Int32) = 0 by decide)]
      exact ⟨_, rfl⟩
    · rw [pk_solved1 hc' s1, pr_isSolved (b := true) w1, h1, h2]
      simp only [Option.bind_some, gq_e, if_neg (show ¬ pz_B true = 0 by decide)]
      rcases pk_idx a hb with q | ⟨i, hi, rfl⟩
      · rw [(pk_needBuyer hc' hb a).1 q, (pr_isBuyer hb r0 a).1 q]
        simp only [Option.bind_some, gq_e, if_true, if_neg nIS, if_neg (show ¬ (2 : Int32) = 0 by decide)]
        exact ⟨_, rfl⟩
      · rw [(pk_needBuyer hc' hb (nI i)).2 i hi rfl, (pr_isBuyer hb r0 (nI i)).2 i hi rfl]
        simp only [Option.bind_some, gq_e, if_neg (show ¬ (1 : Int32) = 0 by decide)]
        rcases pk_idx b hg with q | ⟨j, hj, rfl⟩
        · rw [(pk_needGood hc' hg b).1 q, (pr_isGood hg r1 b).1 q]
          simp only [Option.bind_some, gq_e, if_true, if_neg nIS, if_neg (show ¬ (2 : Int32) = 0 by decide)]
          exact ⟨_, rfl⟩
        · rw [(pk_needGood hc' hg (nI j)).2 j hj rfl, (pr_isGood hg r1 (nI j)).2 j hj rfl]
          simp only [Option.bind_some, gq_e, if_neg (show ¬ (1 : Int32) = 0 by decide)]
          obtain ⟨U, p, t2, t3, t4, t5, t6, t7, t8⟩ := hSr w1
          obtain ⟨o1, o2, -⟩ := pq_one hA' hOk t4
          obtain ⟨b1, b2, b3, b4, b5⟩ := ps_bnd hg hOk
          have hX := @pv_X_one nb ng m v (pd_U δ ng) U (pd_c α δ ng) p (by omega) t4.1 o1 (3 * i + j)
          have i1 := (@pv_s_I nb ng (mq_L nb ng (fun i j => (v i j : Int)) (pd_c α δ ng)) 1000000000000000 (fun i => pd_U δ ng * (m i : Int)) (pd_c α δ ng) hb hg mq_L_0b mq_L_0g (pf_I0 hA' hOk.1 b2 (fun j => by have := b3 j; omega)) 9 (Nat.le_refl 9)).2.2.2.2.2.2 (3 * i + j)
          have i2 := (@pv_s_I nb ng (mq_L nb ng (fun i j => (v i j : Int)) p) 1000000000000000 (fun i => U * (m i : Int)) p hb hg mq_L_0b mq_L_0g (pf_I0 hA' t4 t5 t6) 9 (Nat.le_refl 9)).2.2.2.2.2.2 (3 * i + j)
          have e1 := q3 i j hi hj
          have e2 := t8 i j hi hj
          have x1 : 0 ≤ pv_X nb ng m v (pd_U δ ng) (pd_c α δ ng) (3 * i + j) ∧ pv_X nb ng m v (pd_U δ ng) (pd_c α δ ng) (3 * i + j) ≤ 1000000000000000 := i1
          have x2 : 0 ≤ pv_X nb ng m v U p (3 * i + j) ∧ pv_X nb ng m v U p (3 * i + j) ≤ 1000000000000000 := i2
          generalize pv_X nb ng m v (pd_U δ ng) (pd_c α δ ng) (3 * i + j) = X at *
          generalize pv_X nb ng m v U p (3 * i + j) = Y at *
          have ab := hOk.2 j hj
          have p1 := t4.2.1 j hj
          have p2 := t6 j
          have p3 := t4.1
          by_cases hd0 : d = 0
          · subst hd0
            obtain ⟨z, z1, z2⟩ := @pe_lowZ X (pd_U δ ng) Y U w (by omega) (by omega) (by omega) (by omega) hX
            simp only [f_K_needWhat, if_true, Option.bind_some, gq_e, pz_g hc', pd_cell, pz_g (show 3 * i + j < 9 by omega), pz_c (n := 3 * i + j) (by omega), e1, q1, z1, if_neg (show ¬ (0 : Int32) < 0 by decide), if_pos (show (0 : Int32) ≤ 1 by decide), pz_cell2, if_neg (show ¬ (0 : Int32) = 1 by decide), e2, t2, z2, pz_g0 (show 0 < 1 by omega) (by omega), pz_t0, pk_uLs, pz_lgr]
            exact ⟨_, rfl⟩
          · by_cases hd1 : d = 1
            · subst hd1
              have m1 : X * δ j ≤ 1000000000000000 * 243 := Int.mul_le_mul x1.2 ab.2.1 (by omega) (by omega)
              have m2 : 0 ≤ X * δ j := Int.mul_nonneg x1.1 (by omega)
              have m3 : pd_U δ ng * α j ≤ 14348907 * 4860 := Int.mul_le_mul b2 ab.2.2.2 (by omega) (by omega)
              have m4 : 0 < pd_U δ ng * α j := Int.mul_pos (by omega) (by omega)
              have hE : X * δ j * p j = Y * (pd_U δ ng * α j) := by
                have o := o2 j hj
                calc X * δ j * p j = X * (p j * δ j) := by simp only [Int.mul_comm, Int.mul_left_comm, Int.mul_assoc]
                  _ = X * (α j * U) := by rw [o]
                  _ = (X * U) * α j := by simp only [Int.mul_comm, Int.mul_left_comm, Int.mul_assoc]
                  _ = (Y * pd_U δ ng) * α j := by rw [hX]
                  _ = _ := by rw [Int.mul_assoc]
              obtain ⟨z, z1, z2⟩ := @pe_lowZ (X * δ j) (pd_U δ ng * α j) Y (p j) w (by omega) (by omega) (by omega) (by omega) hE
              simp only [f_K_needWhat, if_neg (show ¬ (1 : Int32) = 0 by decide), if_true, Option.bind_some, gq_e, pz_g hc', pd_cell, pz_g (show 3 * i + j < 9 by omega), pz_c (n := 3 * i + j) (by omega), e1, q1, pz_g (show j < 3 by omega), pz_c (n := j) (by omega), (q2 j hj).1, (q2 j hj).2, pz_mul, z1, if_neg (show ¬ (1 : Int32) < 0 by decide), if_pos (show (1 : Int32) ≤ 1 by decide), pz_cell2, e2, t3 j hj, z2, pz_g0 (show 0 < 1 by omega) (by omega), pz_t0, pk_uLs, pz_lgr]
              exact ⟨_, rfl⟩
            · have e3 : ∀ (X : Option (Int64 × Int32)), (if d < 0 then some ((0 : Int64), (2 : Int32)) else if d ≤ 1 then X else some (0, 2)) = some (0, 2) := fun X => by
                by_cases h0 : d < 0
                · rw [if_pos h0]
                · rw [if_neg h0, if_neg]
                  intro hle
                  rw [pj_lt, t0] at h0
                  rw [pj_le, t1] at hle
                  rcases (by omega : d.toInt = 0 ∨ d.toInt = 1) with q | q
                  · exact hd0 (Int32.toInt_inj.mp (by rw [q, t0]))
                  · exact hd1 (Int32.toInt_inj.mp (by rw [q, t1]))
              rw [e3]
              simp only [f_K_needWhat, if_neg hd0, if_neg hd1, Option.bind_some, gq_e, if_true, if_neg nIS, if_neg (show ¬ (2 : Int32) = 0 by decide)]
              exact ⟨_, rfl⟩
  unfold fi_spent
  by_cases h : e = 0
  · rw [if_pos h]; exact key 0
  · rw [if_neg h]; exact key 1
/-! Pure part 38: the round of best. -/
theorem pz_eL {S T α : Type} {f : S → α} {g : T → α} {x : S} : gq_e f g (.inl x) = f x := rfl
theorem pz_eR {S T α : Type} {f : S → α} {g : T → α} {x : T} : gq_e f g (.inr x) = g x := rfl
theorem po_best {rth rps : Int32} {rln : Int64} {vno vpa : Nat → Int32} {vpr vsp : Nat → Int64} {vli vop : Nat → Int32} {vpu vre vpt : Nat → Int64} {vgr vab vbe : Nat → Int32} {krg : Nat → Option Nat} {kno kun : Int32} {mbu mgo : Nat → Int32} {mpu mwo : Nat → Nat → Int32} {mso : Nat → Int32} {mun : Nat → Int64} {pab pbe hsh : Nat → Nat → Int64} {tab tbe oar : Nat → Int64} {c : Nat} {dbu dgo : Int32} {dun : Int64} {dco dfu : Nat → Int64} {dli : Nat → Int32} {a b d : Int32} (hI : pzI kno kun mbu mgo mpu mwo mso mun pab pbe hsh tab tbe rps rln vno vpa vpr vsp vli vab vbe) (hc : c < 9) (hk : kno = nI c) : ∃ r, fi_best krg kno kun dbu dgo dun dco dfu dli rth rps rln vno vpa vpr vsp vli vop vpu vre vpt vgr vab vbe oar mbu mgo mpu mwo mso mun pab pbe c a b d = some r := by
  subst hk
  have hI' := hI
  obtain ⟨c', u, hc', hu, hk', hku, hrp, ⟨nb, ng, m, v, hB, hSr⟩, hK, hT⟩ := hI
  have ec : c = c' := (nI_eq (by omega) (by omega)).mp hk'
  subst ec
  subst hku hrp
  have hB' := hB
  obtain ⟨hA, h1, h2, h3, h4, hr, h6⟩ := hB
  have hA' := hA
  have hr' := hr
  obtain ⟨r0, r1, r3, r6⟩ := hr
  obtain ⟨hb, hg, hm1, hm0, hv9, hv0⟩ := hA
  obtain ⟨t0, t1, t2', t3', t9, t20, t21, tk, tm⟩ := pk_t
  have nIS : ¬ "java/lang/IndexOutOfBoundsException" = "java/lang/IllegalStateException" := by decide
  have key : ∀ w : Int32, ∃ r, (f_L_best krg (nI c) (nI u) (mbu c) (mgo c) (mpu c) (mwo c) (mso c) (mun c) (pab c) (pbe c) dbu dgo dun dco dfu dli oar a b w).bind (fun x2 => (f_R_best rth (nI u) rln vno vpa vpr vsp vli vop vpu vre vpt vgr vab vbe a b w).bind (fun x5 => (f_R_thrown x5.2 (nI u) rln vno vpa vpr vsp vli vop vpu vre vpt vgr vab vbe).bind (fun x7 => (if x7 = x2.1 then (if x2.1 = 0 then gq_g 0 1 ((if (lg_cmp (x2.2.2.2.2.2.2.2 (Int32.toNatClampNeg 0)) x5.1) = 0 then some (x2.2.1, x2.2.2.1, x2.2.2.2.1, x2.2.2.2.2.1, x2.2.2.2.2.2.1, x2.2.2.2.2.2.2.1, x5.2, x2.2.2.2.2.2.2.2) else none)) else some (x2.2.1, x2.2.2.1, x2.2.2.2.1, x2.2.2.2.2.1, x2.2.2.2.2.2.1, x2.2.2.2.2.2.2.1, x5.2, x2.2.2.2.2.2.2.2)) else none)))) = some r := fun w => by
    unfold f_L_best f_K_best f_R_best f_R_thrown
    rcases h6 with ⟨s0, w0⟩ | ⟨s1, w1, hR, α, δ, hOk, q1, q2, q3⟩
    · rw [pk_solved0 hc' s0, pr_isSolved (b := false) w0]
      simp only [Option.bind_some, pz_eL, pz_eR, if_true, if_pos (show pz_B false = 0 from rfl), if_neg (show ¬ (1 : Int32) = 0 by decide)]
      exact ⟨_, rfl⟩
    · rw [pk_solved1 hc' s1, pr_isSolved (b := true) w1, h1, h2]
      simp only [Option.bind_some, pz_eL, pz_eR, if_neg (show ¬ pz_B true = 0 by decide)]
      rcases pk_idx a hb with q | ⟨i, hi, rfl⟩
      · rw [(pk_needBuyer hc' hb a).1 q, (pr_isBuyer hb r0 a).1 q]
        simp only [Option.bind_some, pz_eL, pz_eR, if_true, if_neg nIS, if_neg (show ¬ (2 : Int32) = 0 by decide)]
        exact ⟨_, rfl⟩
      · rw [(pk_needBuyer hc' hb (nI i)).2 i hi rfl, (pr_isBuyer hb r0 (nI i)).2 i hi rfl]
        simp only [Option.bind_some, pz_eL, pz_eR, if_neg (show ¬ (1 : Int32) = 0 by decide)]
        obtain ⟨U, p, t2, t3, t4, t5, t6, t7, t8⟩ := hSr w1
        obtain ⟨o1, o2, o3⟩ := pq_one hA' hOk t4
        obtain ⟨x, x1, x2⟩ := @pq_look nb ng dun (mun c) dbu dgo (mso c) dco dfu (pab c) (pbe c) dli (mpu c) (mwo c) m v α δ hA' hR h3 (fun i j hi hj => h4 i j (by omega) (by omega)) q2 hOk
        have hl8 := @pd_l_lt ng v (pd_c α δ ng) i hg
        have hbit : ∀ j, j < 3 → pz_S (pd_l ng v (pd_c α δ ng) i) j = mq_L nb ng (fun i j => (v i j : Int)) p i j := fun j hj => by
          rw [pd_l_eq hg hi hj hOk.1.2.1 (hR.2.2.1 i hi), o3]
        have hx2 := x2 i hi
        generalize pd_l ng v (pd_c α δ ng) i = l at *
        have hl0 : l ≠ 0 := by
          obtain ⟨j, j1, j2⟩ := pf_best hi t4.2.1 (hR.2.2.1 i hi)
          exact (sg_ne0 l hl8).mpr ⟨j, by omega, by rw [hbit j (by omega)]; exact j2⟩
        obtain ⟨g1, g2⟩ := sg_f_in l hl8 hl0
        have hf1 := pd_firstOf l hl8
        have hf3 := @sg_f_lt l
        generalize sg_f l = f at *
        rw [hbit f hf3] at g1
        have hfn := (mq_L_iff.mp g1).2.1
        have hloop : gq_it 1000000 (fb_R_best_49 vli (nI i)) 0 = some (nI f) := by
          refine pz_for (fun k => nI k) 0 f (by omega) (by omega) (fun k _ hk => ?_) ?_
          · have e := g2 k hk
            rw [hbit k (by omega)] at e
            simp only [fb_R_best_49, pz_cell2, pz_g (show 3 * i + k < 9 by omega), pz_c (n := 3 * i + k) (by omega), t7 i k hi (by omega), e, if_pos (show pz_B false = 0 from rfl), nI_1]
          · simp only [fb_R_best_49, pz_cell2, pz_g (show 3 * i + f < 9 by omega), pz_c (n := 3 * i + f) (by omega), t7 i f hi hfn, g1, if_neg (show ¬ pz_B true = 0 by decide)]
        have ab := hOk.2 f hfn
        have p1 := t4.2.1 f hfn
        have p2 := t6 f
        have p3 := t4.1
        have v9 := hv9 i f
        have m20 := (hm1 i hi).2
        have hval : ∀ a1 a2 a3 a4 a5 a6 a7 a8 a9 a10 a11 a12 a13 a14, f_R_valueOf a1 a2 a3 vno a4 a5 a6 a7 a8 a9 a10 a11 a12 a13 a14 (nI i) (nI f) = some (nI (v i f)) := fun a1 a2 a3 a4 a5 a6 a7 a8 a9 a10 a11 a12 a13 a14 => pr_valueOf (show i < 3 by omega) hf3 (r6 i f hi hfn)
        have hpur : ∀ a1 a2 a3 a4 a5 a6 a7 a8 a9 a10 a11 a12 a13 a14, f_R_purseOf a1 a2 a3 vno a4 a5 a6 a7 a8 a9 a10 a11 a12 a13 a14 (nI i) = some (nI (m i)) := fun a1 a2 a3 a4 a5 a6 a7 a8 a9 a10 a11 a12 a13 a14 => pr_purseOf (show i < 3 by omega) (r3 i hi)
        have low : ∀ t : Nat, t ≤ 20 → ∃ z, f_K_lowest (pz ((t : Int) * (v i f : Int) * δ f)) (pz (α f)) w = some z ∧ f_R_lowest (pz ((v i f : Int) * U * (t : Int))) (pz (p f)) w = some z := fun t ht => by
          have n1 : (t : Int) * (v i f : Int) ≤ 20 * 9 := Int.mul_le_mul (by omega) (by omega) (by omega) (by omega)
          have n2 : 0 ≤ (t : Int) * (v i f : Int) := Int.mul_nonneg (by omega) (by omega)
          have n3 : (t : Int) * (v i f : Int) * δ f ≤ 20 * 9 * 243 := Int.mul_le_mul n1 ab.2.1 (by omega) (by omega)
          have n4 : 0 ≤ (t : Int) * (v i f : Int) * δ f := Int.mul_nonneg n2 (by omega)
          have n5 : (v i f : Int) * U ≤ 9 * 14348907 := Int.mul_le_mul (by omega) t5 (by omega) (by omega)
          have n6 : 0 ≤ (v i f : Int) * U := Int.mul_nonneg (by omega) (by omega)
          have n7 : (v i f : Int) * U * (t : Int) ≤ 9 * 14348907 * 20 := Int.mul_le_mul n5 (by omega) (by omega) (by omega)
          have n8 : 0 ≤ (v i f : Int) * U * (t : Int) := Int.mul_nonneg n6 (by omega)
          refine pe_lowZ w (by omega) (by omega) (by omega) (by omega) ?_
          have o := o2 f hfn
          calc (t : Int) * (v i f : Int) * δ f * p f = (t : Int) * (v i f : Int) * (p f * δ f) := by simp only [Int.mul_comm, Int.mul_left_comm, Int.mul_assoc]
            _ = (t : Int) * (v i f : Int) * (α f * U) := by rw [o]
            _ = _ := by simp only [Int.mul_comm, Int.mul_left_comm, Int.mul_assoc]
        by_cases hb0 : b = 0
        · subst hb0
          obtain ⟨z, z1, z2⟩ := low 1 (by omega)
          have c1 : pz 1 * pz (v i f : Int) * pz (δ f) = pz (((1 : Nat) : Int) * (v i f : Int) * δ f) := by rw [pz_mul, pz_mul, show ((1 : Nat) : Int) = 1 from rfl]
          have c2 : pz (v i f : Int) * pz U * Int32.toInt64 1 = pz ((v i f : Int) * U * ((1 : Nat) : Int)) := by
            rw [show Int32.toInt64 1 = pz ((1 : Nat) : Int) from pz_nI (n := 1) (by omega), pz_mul, pz_mul]
          have hKl : ((f_K_needWhat 0).bind (fun x5 => gq_e (fun x5u => gq_g (nI c) 9 ((f_D_look dbu dgo dun dco dfu dli (nI nb) (nI ng) (mpu c) (mwo c) (mso c) (mun c) (pab c) (pbe c)).bind (fun x8 => gq_g (nI i) 3 ((f_K_firstOf (x8.2.2.2.2.2 (Int32.toNatClampNeg (nI i)))).bind (fun x11 => (if (0 : Int32) = 1 then gq_g (nI i) 3 ((f_K_cell (nI i) x11).bind (fun x22 => gq_g x22 9 (gq_g x11 3 (gq_g x11 3 ((f_K_lowest (((Int32.toInt64 (mpu c (Int32.toNatClampNeg (nI i)))) * (Int32.toInt64 (mwo c (Int32.toNatClampNeg x22)))) * (pbe c (Int32.toNatClampNeg x11))) (pab c (Int32.toNatClampNeg x11)) w).bind (fun x27 => some (.inl (x27, x8.1, x8.2.1, x8.2.2.1, x8.2.2.2.1, x8.2.2.2.2.1, x8.2.2.2.2.2)))))))) else (f_K_cell (nI i) x11).bind (fun x14 => gq_g x14 9 (gq_g x11 3 (gq_g x11 3 ((f_K_lowest ((1 * (Int32.toInt64 (mwo c (Int32.toNatClampNeg x14)))) * (pbe c (Int32.toNatClampNeg x11))) (pab c (Int32.toNatClampNeg x11)) w).bind (fun x19 => some (.inl (x19, x8.1, x8.2.1, x8.2.2.1, x8.2.2.2.1, x8.2.2.2.2.1, x8.2.2.2.2.2))))))))))))) (fun e => some (.inr e)) x5) : Option ((Int64 × Int32 × Int32 × Int64 × (Nat → Int64) × (Nat → Int64) × (Nat → Int32)) ⊕ String)) = some (.inl (z, x.1, x.2.1, x.2.2.1, x.2.2.2.1, x.2.2.2.2.1, x.2.2.2.2.2)) := by
            rw [show f_K_needWhat 0 = some (.inl ()) from rfl, Option.bind_some]
            show gq_g (nI c) 9 _ = _
            rw [pz_g hc', x1, Option.bind_some, pz_g (show i < 3 by omega), pz_c (n := i) (by omega), hx2, hf1, Option.bind_some, if_neg (show ¬ (0 : Int32) = 1 by decide), pd_cell, Option.bind_some, pz_g (show 3 * i + f < 9 by omega), pz_g hf3, pz_g hf3, pz_c (n := 3 * i + f) (by omega), pz_c (n := f) (by omega), h4 i f (by omega) hf3, pz_nI (show v i f < 2 ^ 31 by omega), (q2 f hfn).1, (q2 f hfn).2, pz_1, c1, z1]
            rfl
          have hRl : ((if (0 : Int32) < 0 then some ((0 : Int64), (2 : Int32)) else (if (0 : Int32) ≤ 1 then (gq_it 1000000 (fb_R_best_49 vli (nI i)) 0).bind (fun x49 => (f_R_valueOf 0 (nI u) rln vno vpa vpr vsp vli vop vpu vre vpt vgr vab vbe (nI i) x49).bind (fun x18 => (if (0 : Int32) = 1 then (f_R_purseOf 0 (nI u) rln vno vpa vpr vsp vli vop vpu vre vpt vgr vab vbe (nI i)).bind (fun x24 => gq_g x49 3 ((f_R_lowest (((Int32.toInt64 x18) * rln) * (Int32.toInt64 x24)) (vpr (Int32.toNatClampNeg x49)) w).bind (fun x27 => some (x27, 0)))) else gq_g x49 3 ((f_R_lowest (((Int32.toInt64 x18) * rln) * (Int32.toInt64 1)) (vpr (Int32.toNatClampNeg x49)) w).bind (fun x22 => some (x22, 0)))))) else some (0, 2)))) = some (z, 0) := by
            rw [if_neg (show ¬ (0 : Int32) < 0 by decide), if_pos (show (0 : Int32) ≤ 1 by decide), hloop, Option.bind_some, hval, Option.bind_some, if_neg (show ¬ (0 : Int32) = 1 by decide), pz_g hf3, pz_c (n := f) (by omega), t3 f hfn, t2, pz_nI (show v i f < 2 ^ 31 by omega), c2, z2]
            rfl
          rw [hKl, hRl]
          simp only [Option.bind_some, pz_eL, pz_eR, pz_g0 (show 0 < 1 by omega) (by omega), pz_t0, pk_uLs, pz_lgr, if_true]
          exact ⟨_, rfl⟩
        · by_cases hb1 : b = 1
          · subst hb1
            obtain ⟨z, z1, z2⟩ := low (m i) (by omega)
            have c1 : pz (m i : Int) * pz (v i f : Int) * pz (δ f) = pz ((m i : Int) * (v i f : Int) * δ f) := by rw [pz_mul, pz_mul]
            have c2 : pz (v i f : Int) * pz U * pz (m i : Int) = pz ((v i f : Int) * U * (m i : Int)) := by rw [pz_mul, pz_mul]
            have hKl : ((f_K_needWhat 1).bind (fun x5 => gq_e (fun x5u => gq_g (nI c) 9 ((f_D_look dbu dgo dun dco dfu dli (nI nb) (nI ng) (mpu c) (mwo c) (mso c) (mun c) (pab c) (pbe c)).bind (fun x8 => gq_g (nI i) 3 ((f_K_firstOf (x8.2.2.2.2.2 (Int32.toNatClampNeg (nI i)))).bind (fun x11 => (if (1 : Int32) = 1 then gq_g (nI i) 3 ((f_K_cell (nI i) x11).bind (fun x22 => gq_g x22 9 (gq_g x11 3 (gq_g x11 3 ((f_K_lowest (((Int32.toInt64 (mpu c (Int32.toNatClampNeg (nI i)))) * (Int32.toInt64 (mwo c (Int32.toNatClampNeg x22)))) * (pbe c (Int32.toNatClampNeg x11))) (pab c (Int32.toNatClampNeg x11)) w).bind (fun x27 => some (.inl (x27, x8.1, x8.2.1, x8.2.2.1, x8.2.2.2.1, x8.2.2.2.2.1, x8.2.2.2.2.2)))))))) else (f_K_cell (nI i) x11).bind (fun x14 => gq_g x14 9 (gq_g x11 3 (gq_g x11 3 ((f_K_lowest ((1 * (Int32.toInt64 (mwo c (Int32.toNatClampNeg x14)))) * (pbe c (Int32.toNatClampNeg x11))) (pab c (Int32.toNatClampNeg x11)) w).bind (fun x19 => some (.inl (x19, x8.1, x8.2.1, x8.2.2.1, x8.2.2.2.1, x8.2.2.2.2.1, x8.2.2.2.2.2))))))))))))) (fun e => some (.inr e)) x5) : Option ((Int64 × Int32 × Int32 × Int64 × (Nat → Int64) × (Nat → Int64) × (Nat → Int32)) ⊕ String)) = some (.inl (z, x.1, x.2.1, x.2.2.1, x.2.2.2.1, x.2.2.2.2.1, x.2.2.2.2.2)) := by
              rw [show f_K_needWhat 1 = some (.inl ()) from rfl, Option.bind_some]
              show gq_g (nI c) 9 _ = _
              rw [pz_g hc', x1, Option.bind_some, pz_g (show i < 3 by omega), pz_c (n := i) (by omega), hx2, hf1, Option.bind_some, if_pos (show (1 : Int32) = 1 from rfl), pz_g (show i < 3 by omega), pd_cell, Option.bind_some, pz_g (show 3 * i + f < 9 by omega), pz_g hf3, pz_g hf3, pz_c (n := 3 * i + f) (by omega), pz_c (n := f) (by omega), h4 i f (by omega) hf3, h3 i hi, pz_nI (show v i f < 2 ^ 31 by omega), pz_nI (show m i < 2 ^ 31 by omega), (q2 f hfn).1, (q2 f hfn).2, c1, z1]
              rfl
            have hRl : ((if (1 : Int32) < 0 then some ((0 : Int64), (2 : Int32)) else (if (1 : Int32) ≤ 1 then (gq_it 1000000 (fb_R_best_49 vli (nI i)) 0).bind (fun x49 => (f_R_valueOf 0 (nI u) rln vno vpa vpr vsp vli vop vpu vre vpt vgr vab vbe (nI i) x49).bind (fun x18 => (if (1 : Int32) = 1 then (f_R_purseOf 0 (nI u) rln vno vpa vpr vsp vli vop vpu vre vpt vgr vab vbe (nI i)).bind (fun x24 => gq_g x49 3 ((f_R_lowest (((Int32.toInt64 x18) * rln) * (Int32.toInt64 x24)) (vpr (Int32.toNatClampNeg x49)) w).bind (fun x27 => some (x27, 0)))) else gq_g x49 3 ((f_R_lowest (((Int32.toInt64 x18) * rln) * (Int32.toInt64 1)) (vpr (Int32.toNatClampNeg x49)) w).bind (fun x22 => some (x22, 0)))))) else some (0, 2)))) = some (z, 0) := by
              rw [if_neg (show ¬ (1 : Int32) < 0 by decide), if_pos (show (1 : Int32) ≤ 1 by decide), hloop, Option.bind_some, hval, Option.bind_some, if_pos (show (1 : Int32) = 1 from rfl), hpur, Option.bind_some, pz_g hf3, pz_c (n := f) (by omega), t3 f hfn, t2, pz_nI (show v i f < 2 ^ 31 by omega), pz_nI (show m i < 2 ^ 31 by omega), c2, z2]
              rfl
            rw [hKl, hRl]
            simp only [Option.bind_some, pz_eL, pz_eR, pz_g0 (show 0 < 1 by omega) (by omega), pz_t0, pk_uLs, pz_lgr, if_true]
            exact ⟨_, rfl⟩
          · have e3 : ∀ (X : Option (Int64 × Int32)), (if b < 0 then some ((0 : Int64), (2 : Int32)) else if b ≤ 1 then X else some (0, 2)) = some (0, 2) := fun X => by
              by_cases h0 : b < 0
              · rw [if_pos h0]
              · rw [if_neg h0, if_neg]
                intro hle
                rw [pj_lt, t0] at h0
                rw [pj_le, t1] at hle
                rcases (by omega : b.toInt = 0 ∨ b.toInt = 1) with q | q
                · exact hb0 (Int32.toInt_inj.mp (by rw [q, t0]))
                · exact hb1 (Int32.toInt_inj.mp (by rw [q, t1]))
            rw [e3]
            simp only [f_K_needWhat, if_neg hb0, if_neg hb1, Option.bind_some, pz_eL, pz_eR, if_true, if_neg nIS, if_neg (show ¬ (2 : Int32) = 0 by decide)]
            exact ⟨_, rfl⟩
  unfold fi_best
  by_cases h : d = 0
  · rw [if_pos h]; exact key 0
  · rw [if_neg h]; exact key 1
