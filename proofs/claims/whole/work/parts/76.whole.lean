/-! Pure part 7: fair prices in whole numbers over one unit. -/
theorem mz_den (q : Rat) : ((q.num : Int) : Rat) = q * ((q.den : Int) : Rat) := by
  have h1 := Rat.num_divInt_den q
  rw [Rat.divInt_eq_div] at h1
  have h2 : ((q.den : Int) : Rat) ≠ 0 := fun h => by
    have := Rat.intCast_eq_zero_iff.mp h
    have := q.den_nz
    omega
  have h3 := Rat.div_mul_cancel (a := ((q.num : Int) : Rat)) h2
  rw [h1] at h3
  exact h3.symm
theorem mz_b {x : Int} {y u : Rat} {s : Bool} (h : ((x : Int) : Rat) = y * u) : (((bif s then x else 0 : Int)) : Rat) = (bif s then y else 0) * u := by
  cases s
  · simp only [cond_false]; rw [Rat.intCast_zero]; grind
  · exact h
theorem mz_c {c : Nat → Int} {p : Nat → Rat} {u : Rat} (h : ∀ j, j < 3 → ((c j : Int) : Rat) = p j * u) (S : Nat → Bool) : ((mq_c c S : Int) : Rat) = mr_c p S * u := by
  unfold mq_c mr_c
  rw [Rat.intCast_add, Rat.intCast_add, mz_b (h 0 (by decide)), mz_b (h 1 (by decide)), mz_b (h 2 (by decide))]
  grind
theorem mz_fair {nb ng : Nat} {v : Nat → Nat → Int} {m : Nat → Int} (hnb : nb ≤ 3) (hng : ng ≤ 3) (hv : ∀ i j, 0 ≤ v i j) (hvz : ∀ i j, nb ≤ i → v i j = 0) (hvg : ∀ i j, ng ≤ j → v i j = 0) (hm : ∀ i, i < nb → 0 < m i) (hmz : ∀ i, nb ≤ i → m i = 0)
    (hrb : ∀ i, i < nb → ∃ j, j < ng ∧ 0 < v i j) (hrg : ∀ j, j < ng → ∃ i, i < nb ∧ 0 < v i j) : ∃ (U : Int) (c : Nat → Int), mq_F nb ng v m U c := by
  have z0 : ((0 : Int) : Rat) = 0 := Rat.intCast_zero
  obtain ⟨p, hp, hpz, hH, hs⟩ := mr_fair (nb := nb) (ng := ng) (v := fun i j => ((v i j : Int) : Rat)) (m := fun i => ((m i : Int) : Rat)) hnb hng
    (fun i j => by rw [← z0]; exact Rat.intCast_le_intCast.mpr (hv i j)) (fun i j h => by rw [hvz i j h]; exact z0) (fun i j h => by rw [hvg i j h]; exact z0)
    (fun i h => by rw [← z0]; exact Rat.intCast_lt_intCast.mpr (hm i h)) (fun i h => by rw [hmz i h]; exact z0)
    (fun i h => by obtain ⟨j, h1, h2⟩ := hrb i h; exact ⟨j, h1, by rw [← z0]; exact Rat.intCast_lt_intCast.mpr h2⟩)
    (fun j h => by obtain ⟨i, h1, h2⟩ := hrg j h; exact ⟨i, h1, by rw [← z0]; exact Rat.intCast_lt_intCast.mpr h2⟩)
  let d : Nat → Int := fun j => ((p j).den : Int)
  let n : Nat → Int := fun j => (p j).num
  have hd : ∀ j, 0 < d j := fun j => by
    have := (p j).den_nz
    show 0 < ((p j).den : Int)
    omega
  have hnd : ∀ j, ((n j : Int) : Rat) = p j * ((d j : Int) : Rat) := fun j => mz_den (p j)
  let U : Int := d 0 * d 1 * d 2
  have hU : 0 < U := Int.mul_pos (Int.mul_pos (hd 0) (hd 1)) (hd 2)
  let c : Nat → Int := fun j => match j with
    | 0 => n 0 * d 1 * d 2
    | 1 => n 1 * d 0 * d 2
    | 2 => n 2 * d 0 * d 1
    | _ => 0
  have hUc : ((U : Int) : Rat) = ((d 0 : Int) : Rat) * ((d 1 : Int) : Rat) * ((d 2 : Int) : Rat) := by
    show (((d 0 * d 1 * d 2 : Int)) : Rat) = _
    rw [Rat.intCast_mul, Rat.intCast_mul]
  have hc : ∀ j, j < 3 → ((c j : Int) : Rat) = p j * ((U : Int) : Rat) := fun j hj => by
    rcases (show j = 0 ∨ j = 1 ∨ j = 2 by omega) with rfl | rfl | rfl
    · show (((n 0 * d 1 * d 2 : Int)) : Rat) = _
      rw [Rat.intCast_mul, Rat.intCast_mul, hnd 0, hUc]; grind
    · show (((n 1 * d 0 * d 2 : Int)) : Rat) = _
      rw [Rat.intCast_mul, Rat.intCast_mul, hnd 1, hUc]; grind
    · show (((n 2 * d 0 * d 1 : Int)) : Rat) = _
      rw [Rat.intCast_mul, Rat.intCast_mul, hnd 2, hUc]; grind
  have hUr : 0 < ((U : Int) : Rat) := by rw [← z0]; exact Rat.intCast_lt_intCast.mpr hU
  have hc3 : ∀ j, 3 ≤ j → c j = 0 := fun j hj => by
    obtain ⟨k, rfl⟩ : ∃ k, j = k + 3 := ⟨j - 3, by omega⟩
    rfl
  refine ⟨U, c, hU, fun j hj => ?_, fun j hj => ?_, ?_, ?_⟩
  · have := Rat.mul_pos (hp j hj) hUr
    rw [← hc j (by omega), ← z0] at this
    exact Rat.intCast_lt_intCast.mp this
  · by_cases h3 : j < 3
    · have h := hc j h3
      rw [hpz j h3 hj] at h
      have h0 : (0 : Rat) * ((U : Int) : Rat) = 0 := by grind
      rw [h0] at h
      exact Rat.intCast_eq_zero_iff.mp h
    · exact hc3 j (by omega)
  · intro S
    have hL : ∀ i j, mq_L nb ng v c i j = mr_L nb ng (fun i j => ((v i j : Int) : Rat)) p i j := fun i j => by
      apply Bool.eq_iff_iff.mpr
      rw [mq_L_iff, mr_L_iff]
      have hk : ∀ k, j < ng → k < ng → (v i k * c j ≤ v i j * c k ↔ ((v i k : Int) : Rat) * p j ≤ ((v i j : Int) : Rat) * p k) := fun k hj hk => by
        rw [← Rat.intCast_le_intCast, Rat.intCast_mul, Rat.intCast_mul, hc j (by omega), hc k (by omega)]
        constructor
        · intro h
          refine mr_can (c := ((U : Int) : Rat)) ?_ hUr
          grind
        · intro h
          have := Rat.mul_le_mul_of_nonneg_right h (Rat.le_of_lt hUr)
          grind
      constructor
      · rintro ⟨h1, h2, h3, h4⟩
        exact ⟨h1, h2, by rw [← z0]; exact Rat.intCast_lt_intCast.mpr h3, fun k hkn => (hk k h2 hkn).mp (h4 k hkn)⟩
      · rintro ⟨h1, h2, h3, h4⟩
        rw [← z0] at h3
        exact ⟨h1, h2, Rat.intCast_lt_intCast.mp h3, fun k hkn => (hk k h2 hkn).mpr (h4 k hkn)⟩
    have hg : mq_g (mq_L nb ng v c) S = mq_g (mr_L nb ng (fun i j => ((v i j : Int) : Rat)) p) S := funext fun i => by
      unfold mq_g
      rw [hL i 0, hL i 1, hL i 2]
    rw [mq_ck, hg]
    apply Rat.intCast_le_intCast.mp
    rw [Rat.intCast_mul, mz_c hc S, mz_c (c := m) (p := fun i => ((m i : Int) : Rat)) (u := 1) (fun j _ => by grind)]
    have := Rat.mul_le_mul_of_nonneg_right (hH S) (Rat.le_of_lt hUr)
    grind
  · apply Rat.intCast_inj.mp
    have e1 : ((c 0 + c 1 + c 2 : Int) : Rat) = (p 0 + p 1 + p 2) * ((U : Int) : Rat) := by
      rw [Rat.intCast_add, Rat.intCast_add, hc 0 (by decide), hc 1 (by decide), hc 2 (by decide)]
      grind
    have e2 : ((U * (m 0 + m 1 + m 2) : Int) : Rat) = ((U : Int) : Rat) * (((m 0 : Int) : Rat) + ((m 1 : Int) : Rat) + ((m 2 : Int) : Rat)) := by
      rw [Rat.intCast_mul U (m 0 + m 1 + m 2), Rat.intCast_add, Rat.intCast_add]
    show ((c 0 + c 1 + c 2 : Int) : Rat) = ((U * (m 0 + m 1 + m 2) : Int) : Rat)
    rw [e1, e2, hs]
    grind
