/-! Pure part 6: prices of greatest sum are fair; so there are fair prices. -/
def mr_L (nb ng : Nat) (v : Nat → Nat → Rat) (p : Nat → Rat) : Nat → Nat → Bool := fun i j => decide (i < nb ∧ j < ng ∧ 0 < v i j ∧ ∀ k, k < ng → v i k * p j ≤ v i j * p k)
theorem mr_L_iff {nb ng : Nat} {v : Nat → Nat → Rat} {p : Nat → Rat} {i j : Nat} : mr_L nb ng v p i j = true ↔ (i < nb ∧ j < ng ∧ 0 < v i j ∧ ∀ k, k < ng → v i k * p j ≤ v i j * p k) := by
  unfold mr_L
  exact decide_eq_true_iff
theorem mr_can {a b c : Rat} (h : a * c ≤ b * c) (hc : 0 < c) : a ≤ b := Rat.le_of_mul_le_mul_right h hc
/-- a best good -/
theorem mr_arg {a p : Nat → Rat} (ha : ∀ k, 0 ≤ a k) : ∀ n, (∀ k, k < n → 0 < p k) → (∃ j, j < n ∧ 0 < a j) → ∃ j, j < n ∧ 0 < a j ∧ ∀ k, k < n → a k * p j ≤ a j * p k
  | 0, _, h => by
    obtain ⟨j, hj, -⟩ := h
    exact absurd hj (Nat.not_lt_zero j)
  | n + 1, hp, h => by
    have hpn : 0 < p n := hp n (by omega)
    by_cases hn : 0 < a n
    · by_cases hj : ∃ j, j < n ∧ 0 < a j
      · obtain ⟨j, hjn, hja, hjk⟩ := mr_arg ha n (fun k hk => hp k (by omega)) hj
        by_cases hc : a n * p j ≤ a j * p n
        · exact ⟨j, by omega, hja, fun k hk => by
            by_cases e : k = n
            · rw [e]; exact hc
            · exact hjk k (by omega)⟩
        · refine ⟨n, by omega, hn, fun k hk => ?_⟩
          by_cases e : k = n
          · rw [e]; exact Rat.le_refl
          · have hkn : k < n := by omega
            have h1 := hjk k hkn
            have hpj : 0 < p j := hp j (by omega)
            have hpk : 0 < p k := hp k (by omega)
            have h2 : a j * p n ≤ a n * p j := by grind
            have h3 := Rat.mul_le_mul_of_nonneg_right h1 (Rat.le_of_lt hpn)
            have h4 := Rat.mul_le_mul_of_nonneg_right h2 (Rat.le_of_lt hpk)
            refine mr_can (c := p j) ?_ hpj
            grind
      · refine ⟨n, by omega, hn, fun k hk => ?_⟩
        by_cases e : k = n
        · rw [e]; exact Rat.le_refl
        · have hk0 : a k = 0 := by
            have h1 := ha k
            have h2 : ¬ 0 < a k := fun q => hj ⟨k, by omega, q⟩
            grind
          have hpk : 0 < p k := hp k (by omega)
          have := Rat.mul_pos hn hpk
          rw [hk0]
          grind
    · obtain ⟨j, hj, hja⟩ := h
      have hjn : j < n := by
        by_cases e : j = n
        · rw [e] at hja; exact absurd hja hn
        · omega
      obtain ⟨j, hjn, hja, hjk⟩ := mr_arg ha n (fun k hk => hp k (by omega)) ⟨j, hjn, hja⟩
      refine ⟨j, by omega, hja, fun k hk => ?_⟩
      by_cases e : k = n
      · have hk0 : a n = 0 := by
          have h1 := ha n
          grind
        have := Rat.mul_pos hja hpn
        rw [e, hk0]
        grind
      · exact hjk k (by omega)
theorem mr_ui1 {x : Rat} {s t : Bool} : (bif s || t then x else 0) + (bif s && t then x else 0) = (bif s then x else 0) + (bif t then x else 0) := by
  cases s <;> cases t <;> simp <;> grind
theorem mr_ui {c : Nat → Rat} {S T : Nat → Bool} : mr_c c (mq_Un S T) + mr_c c (mq_In S T) = mr_c c S + mr_c c T := by
  have a0 := mr_ui1 (x := c 0) (s := S 0) (t := T 0)
  have a1 := mr_ui1 (x := c 1) (s := S 1) (t := T 1)
  have a2 := mr_ui1 (x := c 2) (s := S 2) (t := T 2)
  have h : ∀ a b d e f g a' b' d' e' f' g' : Rat, a + b = a' + b' → d + e = d' + e' → f + g = f' + g' → (a + d + f) + (b + e + g) = (a' + d' + f') + (b' + e' + g') := by
    intro a b d e f g a' b' d' e' f' g' h1 h2 h3
    grind
  exact h _ _ _ _ _ _ _ _ _ _ _ _ a0 a1 a2
theorem mr_pb {x : Rat} {s t u w : Bool} (hx : 0 ≤ x) (hu : u = (s || t)) (hw : w = true → s = true ∧ t = true) :
    (bif u then x else 0) + (bif w then x else 0) ≤ (bif s then x else 0) + (bif t then x else 0) := by
  subst hu
  cases s <;> cases t <;> cases w <;> first | (simp only [Bool.or_true, Bool.or_false, Bool.true_or, Bool.false_or, cond_true, cond_false]; grind) | (exact absurd (hw rfl) (by simp))
theorem mr_ad6 {a b d e f g a' b' d' e' f' g' : Rat} (h1 : a + b ≤ a' + b') (h2 : d + e ≤ d' + e') (h3 : f + g ≤ f' + g') : (a + d + f) + (b + e + g) ≤ (a' + d' + f') + (b' + e' + g') := by grind
theorem mr_subm {L : Nat → Nat → Bool} {m : Nat → Rat} (hm : ∀ i, i < 3 → 0 ≤ m i) (S T : Nat → Bool) : mr_c m (mq_g L (mq_Un S T)) + mr_c m (mq_g L (mq_In S T)) ≤ mr_c m (mq_g L S) + mr_c m (mq_g L T) :=
  mr_ad6 (mr_pb (hm 0 (by decide)) mq_gU mq_gI) (mr_pb (hm 1 (by decide)) mq_gU mq_gI) (mr_pb (hm 2 (by decide)) mq_gU mq_gI)
def mr_n (S : Nat → Bool) : Nat := (S 0).toNat + (S 1).toNat + (S 2).toNat
theorem mr_n_lt {S T : Nat → Bool} {j : Nat} (hj : j < 3) (h1 : T j = false) (h2 : S j = true) : mr_n T < mr_n (mq_Un T S) := by
  unfold mr_n mq_Un
  rcases (show j = 0 ∨ j = 1 ∨ j = 2 by omega) with rfl | rfl | rfl <;> rw [h1, h2] <;>
    (cases T 0 <;> cases T 1 <;> cases T 2 <;> cases S 0 <;> cases S 1 <;> cases S 2 <;> decide)
theorem mr_n_le (S : Nat → Bool) : mr_n S ≤ 3 := by
  unfold mr_n
  cases S 0 <;> cases S 1 <;> cases S 2 <;> decide
theorem mr_bz {x y : Rat} {s : Bool} (h : s = false → x = y) (h2 : s = true → x = y) : x = y := by
  cases s
  · exact h rfl
  · exact h2 rfl
/-- a part in T and the rest, which grows -/
theorem mr_sp1 {x e : Rat} {s t : Bool} : (bif s then (bif t then x else x * (1 + e)) else 0) = (bif s && t then x else 0) + (bif s && !t then x else 0) * (1 + e) := by
  cases s <;> cases t <;> simp <;> grind
theorem mr_sp {p : Nat → Rat} {e : Rat} {S T : Nat → Bool} : mr_c (fun j => bif T j then p j else p j * (1 + e)) S = mr_c p (fun j => S j && T j) + mr_c p (fun j => S j && !T j) * (1 + e) := by
  have a0 := mr_sp1 (x := p 0) (e := e) (s := S 0) (t := T 0)
  have a1 := mr_sp1 (x := p 1) (e := e) (s := S 1) (t := T 1)
  have a2 := mr_sp1 (x := p 2) (e := e) (s := S 2) (t := T 2)
  unfold mr_c
  rw [a0, a1, a2]
  grind
theorem mr_dj1 {x : Rat} {s t u : Bool} (hx : 0 ≤ x) (h : ¬ (s = true ∧ t = true)) (h1 : s = true → u = true) (h2 : t = true → u = true) : (bif s then x else 0) + (bif t then x else 0) ≤ (bif u then x else 0) := by
  cases s <;> cases t <;> cases u <;> first | (simp only [cond_true, cond_false]; grind) | exact absurd ⟨rfl, rfl⟩ h | exact absurd (h1 rfl) (by decide) | exact absurd (h2 rfl) (by decide)
theorem mr_dj {m : Nat → Rat} {S T V : Nat → Bool} (hm : ∀ i, i < 3 → 0 ≤ m i) (h : ∀ i, i < 3 → ¬ (S i = true ∧ T i = true)) (h1 : ∀ i, i < 3 → S i = true → V i = true) (h2 : ∀ i, i < 3 → T i = true → V i = true) : mr_c m S + mr_c m T ≤ mr_c m V := by
  have a0 := mr_dj1 (hm 0 (by decide)) (h 0 (by decide)) (h1 0 (by decide)) (h2 0 (by decide))
  have a1 := mr_dj1 (hm 1 (by decide)) (h 1 (by decide)) (h1 1 (by decide)) (h2 1 (by decide))
  have a2 := mr_dj1 (hm 2 (by decide)) (h 2 (by decide)) (h1 2 (by decide)) (h2 2 (by decide))
  have q : ∀ a b d e f g a' b' d' : Rat, a + b ≤ a' → d + e ≤ b' → f + g ≤ d' → (a + d + f) + (b + e + g) ≤ a' + b' + d' := by
    intro a b d e f g a' b' d' h1 h2 h3
    grind
  exact q _ _ _ _ _ _ _ _ _ a0 a1 a2
theorem mr_du1 {x : Rat} {s t : Bool} : (bif s || t then x else 0) = (bif t then x else 0) + (bif s && !t then x else 0) := by
  cases s <;> cases t <;> simp <;> grind
theorem mr_du {m : Nat → Rat} {S T : Nat → Bool} : mr_c m (fun i => S i || T i) = mr_c m T + mr_c m (fun i => S i && !T i) := by
  have a0 := mr_du1 (x := m 0) (s := S 0) (t := T 0)
  have a1 := mr_du1 (x := m 1) (s := S 1) (t := T 1)
  have a2 := mr_du1 (x := m 2) (s := S 2) (t := T 2)
  unfold mr_c
  rw [a0, a1, a2]
  grind
theorem mr_cf {p : Nat → Rat} {S T : Nat → Bool} (h : ∀ j, j < 3 → S j = T j) : mr_c p S = mr_c p T := by
  unfold mr_c
  rw [h 0 (by decide), h 1 (by decide), h 2 (by decide)]
theorem mr_full1 {x : Rat} {s : Bool} (h : s = false → x = 0) : (bif s then x else 0) = x := by
  cases s
  · rw [h rfl]; rfl
  · rfl
theorem mr_full {p : Nat → Rat} {S : Nat → Bool} (h : ∀ j, j < 3 → S j = false → p j = 0) : mr_c p S = p 0 + p 1 + p 2 := by
  unfold mr_c
  rw [mr_full1 (h 0 (by decide)), mr_full1 (h 1 (by decide)), mr_full1 (h 2 (by decide))]
theorem mr_mul_le {a b c : Rat} (h : a ≤ b) (hc : 0 ≤ c) : c * a ≤ c * b := Rat.mul_le_mul_of_nonneg_left h hc
set_option maxHeartbeats 1000000 in
/-- where the sum is below the money of all, some prices are fit and have a greater one -/
theorem mr_improve {nb ng : Nat} {v : Nat → Nat → Rat} {m lo p : Nat → Rat} (hnb : nb ≤ 3) (hng : ng ≤ 3) (hv : ∀ i j, 0 ≤ v i j) (hm : ∀ i, i < 3 → 0 ≤ m i) (hmz : ∀ i, i < 3 → nb ≤ i → m i = 0)
    (hlo : ∀ j, j < 3 → j < ng → 0 < lo j) (hlo0 : ∀ j, j < 3 → ng ≤ j → lo j = 0) (hrb : ∀ i, i < nb → ∃ j, j < ng ∧ 0 < v i j)
    (hF : mr_feas nb ng v m lo (mr_L nb ng v p) p) (hlt : p 0 + p 1 + p 2 < m 0 + m 1 + m 2) :
    ∃ (F : Nat → Nat → Bool) (q : Nat → Rat), mr_feas nb ng v m lo F q ∧ p 0 + p 1 + p 2 < q 0 + q 1 + q 2 := by
  have hp : ∀ j, j < ng → 0 < p j := fun j hj => by
    have h1 := hlo j (by omega) hj
    have h2 := hF.1 j (by omega)
    grind
  have hpz : ∀ j, j < 3 → ng ≤ j → p j = 0 := fun j hj hn => by
    have h1 := hlo0 j hj hn
    have h2 := hF.1 j hj
    have h3 := hF.2.1 j hj hn
    grind
  have hp0 : ∀ j, j < 3 → 0 ≤ p j := fun j hj => by
    by_cases h : j < ng
    · exact Rat.le_of_lt (hp j h)
    · rw [hpz j hj (by omega)]; exact Rat.le_refl
  have hH := mr_feas_H hF
  have hlike : ∀ i, i < nb → ∃ j, j < ng ∧ mr_L nb ng v p i j = true := fun i hi => by
    obtain ⟨j, hj, hja, hjk⟩ := mr_arg (a := v i) (p := p) (hv i) ng hp (hrb i hi)
    exact ⟨j, hj, mr_L_iff.mpr ⟨hi, hj, hja, hjk⟩⟩
  generalize hE : mr_L nb ng v p = E at hF hH hlike
  have hEi : ∀ {i j : Nat}, E i j = true → (i < nb ∧ j < ng ∧ 0 < v i j ∧ ∀ k, k < ng → v i k * p j ≤ v i j * p k) := fun {i j} h => by
    rw [← hE] at h
    exact mr_L_iff.mp h
  have hEo : ∀ {i j : Nat}, (i < nb ∧ j < ng ∧ 0 < v i j ∧ ∀ k, k < ng → v i k * p j ≤ v i j * p k) → E i j = true := fun {i j} h => by
    rw [← hE]
    exact mr_L_iff.mpr h
  obtain ⟨n, ⟨T, hT, hTn⟩, hmin⟩ := pk_least (fun n => ∃ S : Nat → Bool, mr_c p S = mr_c m (mq_g E S) ∧ mr_n S + n = 3) ⟨3, fun _ => false, rfl, rfl⟩
  have hmaxT : ∀ S : Nat → Bool, mr_c p S = mr_c m (mq_g E S) → ∀ j, j < 3 → S j = true → T j = true := fun S hS j hj hSj => by
    cases hTj : T j with
    | true => rfl
    | false =>
      exfalso
      have hU : mr_c p (mq_Un T S) = mr_c m (mq_g E (mq_Un T S)) := by
        have a1 := hH (mq_Un T S)
        have a2 := hH (mq_In T S)
        have a3 := mr_ui (c := p) (S := T) (T := S)
        have a4 := mr_subm (L := E) hm T S
        rw [hT, hS] at a3
        grind
      have h1 := mr_n_lt hj hTj hSj
      have h2 := mr_n_le (mq_Un T S)
      exact hmin (3 - mr_n (mq_Un T S)) (by omega) ⟨mq_Un T S, hU, by omega⟩
  by_cases hall : ∀ j, j < ng → T j = true
  · exfalso
    have h1 : mr_c p T = p 0 + p 1 + p 2 := mr_full (fun j hj hf => by
      by_cases h : j < ng
      · rw [hall j h] at hf; cases hf
      · exact hpz j hj (by omega))
    have h2 : mr_c m (mq_g E T) = m 0 + m 1 + m 2 := mr_full (fun i hi hf => by
      by_cases h : i < nb
      · obtain ⟨j, hj, hl⟩ := hlike i h
        have := mq_g_in (L := E) (S := T) (i := i) (show j < 3 by omega) (hall j hj) hl
        rw [this] at hf
        cases hf
      · exact hmz i hi (by omega))
    rw [h1, h2] at hT
    grind
  · have hex : ∃ j, j < ng ∧ T j = false := by
      apply Classical.byContradiction
      intro hno
      apply hall
      intro j hj
      cases h : T j with
      | true => rfl
      | false => exact absurd ⟨j, hj, h⟩ hno
    obtain ⟨j0, hj0, hTj0⟩ := hex
    -- small steps
    have s1 : mr_Sm (fun e => ∀ i, i < 3 → ∀ j, j < 3 → ∀ k, k < 3 → ((E i j = true ∧ T k = true ∧ k < ng ∧ mq_g E T i = false) → v i k * p j * (1 + e) ≤ v i j * p k)) := by
      refine mr_Sm.all (fun i => mr_Sm.all (fun j => mr_Sm.all (fun k => mr_Sm.imp _ fun ⟨he, hTk, hkg, hg⟩ => ?_) 3) 3) 3
      obtain ⟨hib, hjg, hvj, hbest⟩ := hEi he
      have hpk := hp k hkg
      have hpj := hp j hjg
      have hle := hbest k hkg
      have hvk := hv i k
      refine mr_Sm.lt (Rat.mul_nonneg hvk (Rat.le_of_lt hpj)) ?_
      by_cases hz : v i k = 0
      · rw [hz]
        have := Rat.mul_pos hvj hpk
        grind
      · by_cases heq : v i k * p j = v i j * p k
        · exfalso
          have hvk' : 0 < v i k := by grind
          have : E i k = true := hEo ⟨hib, hkg, hvk', fun r hr => by
            have h1 := hbest r hr
            refine mr_can (c := v i j) ?_ hvj
            have h2 := Rat.mul_le_mul_of_nonneg_right h1 hvk
            have h3 : v i r * p k * v i j = v i r * (v i j * p k) := by grind
            rw [h3, ← heq]
            grind⟩
          have := mq_g_in (L := E) (S := T) (i := i) (show k < 3 by omega) hTk this
          rw [hg] at this
          cases this
        · grind
    have s2 : mr_Sm (fun e => ∀ b0 b1 b2 : Bool, ((∃ j, j < 3 ∧ mr_S b0 b1 b2 j = true ∧ T j = false) → mr_c p (fun a => mr_S b0 b1 b2 a && !T a) * (1 + e) ≤ mr_c m (fun i => mq_g E (fun a => mr_S b0 b1 b2 a && !T a) i && !mq_g E T i))) := by
      refine mr_Sm.bool fun b0 => mr_Sm.bool fun b1 => mr_Sm.bool fun b2 => mr_Sm.imp _ fun ⟨j, hj, hSj, hTj⟩ => ?_
      generalize mr_S b0 b1 b2 = S at hSj
      refine mr_Sm.lt (mr_c0 hp0) ?_
      have a1 := hH (fun a => (S a && !T a) || T a)
      have a2 : mr_c p (fun a => (S a && !T a) || T a) = mr_c p T + mr_c p (fun a => S a && !T a) := by
        rw [mr_du]
        have : mr_c p (fun i => (S i && !T i) && !T i) = mr_c p (fun a => S a && !T a) := mr_cf (fun i _ => by cases S i <;> cases T i <;> rfl)
        rw [this]
      have a3 : mr_c m (mq_g E (fun a => (S a && !T a) || T a)) = mr_c m (mq_g E T) + mr_c m (fun i => mq_g E (fun a => S a && !T a) i && !mq_g E T i) := by
        rw [← mr_du]
        exact mr_cf (fun i _ => mq_gU (S := fun a => S a && !T a) (T := T))
      have a4 : ¬ mr_c p (fun a => (S a && !T a) || T a) = mr_c m (mq_g E (fun a => (S a && !T a) || T a)) := fun q => by
        have := hmaxT _ q j hj (by rw [hSj, hTj]; rfl)
        rw [hTj] at this
        cases this
      rw [a2, a3, hT] at a1 a4
      grind
    obtain ⟨d, hd, hdd⟩ := s1.and s2
    obtain ⟨k1, k2⟩ := hdd d hd Rat.le_refl
    have hd1 : 0 ≤ 1 + d := by grind
    refine ⟨fun i j => bif mq_g E T i then E i j && T j else E i j, fun j => bif T j then p j else p j * (1 + d), ⟨?_, ?_, ?_, ?_⟩, ?_⟩
    · intro j hj
      have h1 := hF.1 j hj
      have h2 := hp0 j hj
      show lo j ≤ (bif T j then p j else p j * (1 + d))
      cases hTj : T j
      · simp only [cond_false]
        have := Rat.mul_nonneg h2 (Rat.le_of_lt hd)
        grind
      · simp only [cond_true]; exact h1
    · intro j hj hn
      show (bif T j then p j else p j * (1 + d)) ≤ 0
      rw [hpz j hj hn]
      cases T j
      · simp only [cond_false]; grind
      · simp only [cond_true]; exact Rat.le_refl
    · intro i hi j hj he
      have he : (bif mq_g E T i then E i j && T j else E i j) = true := he
      have hEij : E i j = true := by
        cases hg : mq_g E T i
        · rw [hg] at he; exact he
        · rw [hg] at he; exact (Bool.and_eq_true _ _ ▸ he : E i j = true ∧ T j = true).1
      obtain ⟨hib, hjg, hvj, hbest⟩ := hEi hEij
      refine ⟨⟨hib, hjg, hvj⟩, fun k hk hkg => ?_⟩
      have hle := hbest k hkg
      have hpk := hp k hkg
      have hpd := Rat.mul_nonneg (Rat.le_of_lt hpk) (Rat.le_of_lt hd)
      dsimp only
      cases hg : mq_g E T i with
      | true =>
        have hTj : T j = true := by rw [hg] at he; exact (Bool.and_eq_true _ _ ▸ he : E i j = true ∧ T j = true).2
        rw [hTj]
        simp only [cond_true]
        cases T k
        · simp only [cond_false]
          have := Rat.mul_nonneg (Rat.le_of_lt hvj) hpd
          grind
        · simp only [cond_true]; exact hle
      | false =>
        have hTj : T j = false := by
          cases h : T j with
          | false => rfl
          | true => rw [mq_g_in (L := E) (S := T) (i := i) hj h hEij] at hg; cases hg
        rw [hTj]
        simp only [cond_false]
        cases hTk : T k
        · simp only [cond_false]
          have := Rat.mul_le_mul_of_nonneg_right hle hd1
          grind
        · simp only [cond_true]
          have := k1 i hi j hj k hk ⟨hEij, hTk, hkg, hg⟩
          grind
    · intro b0 b1 b2
      rw [mr_sp]
      have hS2 := k2 b0 b1 b2
      generalize mr_S b0 b1 b2 = S at hS2 ⊢
      have h1 := hH (fun j => S j && T j)
      have h2 : mr_c p (fun j => S j && !T j) * (1 + d) ≤ mr_c m (fun i => mq_g E (fun a => S a && !T a) i && !mq_g E T i) := by
        by_cases hx : ∃ j, j < 3 ∧ S j = true ∧ T j = false
        · exact hS2 hx
        · have hz : mr_c p (fun j => S j && !T j) = mr_c p (fun _ => false) := mr_cf (fun j hj => by
            cases hs : S j
            · rfl
            · cases ht : T j
              · exact absurd ⟨j, hj, hs, ht⟩ hx
              · rfl)
          have hz' : mr_c p (fun _ => false) = 0 := by
            show (0 : Rat) + 0 + 0 = 0
            grind
          have := mr_c0 (S := fun i => mq_g E (fun a => S a && !T a) i && !mq_g E T i) hm
          rw [hz, hz']
          grind
      have h3 := mr_dj (m := m) (S := mq_g E (fun j => S j && T j)) (T := fun i => mq_g E (fun a => S a && !T a) i && !mq_g E T i) (V := mq_g (fun i j => bif mq_g E T i then E i j && T j else E i j) S) hm
        (fun i hi hb => by
          obtain ⟨j, hj, hs, hl⟩ := mq_g_ex hb.1
          have hs' := (Bool.and_eq_true _ _ ▸ hs : S j = true ∧ T j = true)
          have hb2 := (Bool.and_eq_true _ _ ▸ hb.2 : _ = true ∧ (!mq_g E T i) = true).2
          rw [mq_g_in (L := E) (S := T) (i := i) hj hs'.2 hl] at hb2
          exact absurd hb2 (by decide))
        (fun i hi hb => by
          obtain ⟨j, hj, hs, hl⟩ := mq_g_ex hb
          have hs' := (Bool.and_eq_true _ _ ▸ hs : S j = true ∧ T j = true)
          refine mq_g_in hj hs'.1 ?_
          show (bif mq_g E T i then E i j && T j else E i j) = true
          rw [mq_g_in (L := E) (S := T) (i := i) hj hs'.2 hl, hl, hs'.2]
          rfl)
        (fun i hi hb => by
          have hb' := (Bool.and_eq_true _ _ ▸ hb : mq_g E (fun a => S a && !T a) i = true ∧ (!mq_g E T i) = true)
          obtain ⟨j, hj, hs, hl⟩ := mq_g_ex hb'.1
          have hs' := (Bool.and_eq_true _ _ ▸ hs : S j = true ∧ (!T j) = true)
          refine mq_g_in hj hs'.1 ?_
          show (bif mq_g E T i then E i j && T j else E i j) = true
          have : mq_g E T i = false := by simpa using hb'.2
          rw [this, hl]
          rfl)
      grind
    · have hx : ∀ j, j < 3 → p j ≤ (bif T j then p j else p j * (1 + d)) := fun j hj => by
        have h2 := hp0 j hj
        cases T j
        · simp only [cond_false]
          have := Rat.mul_nonneg h2 (Rat.le_of_lt hd)
          grind
        · exact Rat.le_refl
      have hy : p j0 < (bif T j0 then p j0 else p j0 * (1 + d)) := by
        rw [hTj0]
        simp only [cond_false]
        have := Rat.mul_pos (hp j0 hj0) hd
        grind
      have x0 := hx 0 (by decide)
      have x1 := hx 1 (by decide)
      have x2 := hx 2 (by decide)
      dsimp only
      have gen : ∀ a b c a' b' c' : Rat, a ≤ a' → b ≤ b' → c ≤ c' → (a < a' ∨ b < b' ∨ c < c') → a + b + c < a' + b' + c' := by
        intro a b c a' b' c' h1 h2 h3 h4
        grind
      refine gen _ _ _ _ _ _ x0 x1 x2 ?_
      rcases (show j0 = 0 ∨ j0 = 1 ∨ j0 = 2 by omega) with rfl | rfl | rfl
      · exact Or.inl hy
      · exact Or.inr (Or.inl hy)
      · exact Or.inr (Or.inr hy)
def mr_mx2 (a b : Rat) : Rat := if a ≤ b then b else a
theorem mr_mx2_ge {a b : Rat} : a ≤ mr_mx2 a b ∧ b ≤ mr_mx2 a b := by
  unfold mr_mx2
  by_cases h : a ≤ b
  · rw [if_pos h]; exact ⟨h, Rat.le_refl⟩
  · rw [if_neg h]; exact ⟨Rat.le_refl, by grind⟩
theorem mr_mx2_or {a b : Rat} : mr_mx2 a b = a ∨ mr_mx2 a b = b := by
  unfold mr_mx2
  by_cases h : a ≤ b
  · rw [if_pos h]; exact Or.inr rfl
  · rw [if_neg h]; exact Or.inl rfl
set_option maxHeartbeats 1000000 in
/-- a ready market has fair prices -/
theorem mr_fair {nb ng : Nat} {v : Nat → Nat → Rat} {m : Nat → Rat} (hnb : nb ≤ 3) (hng : ng ≤ 3) (hv : ∀ i j, 0 ≤ v i j) (hvz : ∀ i j, nb ≤ i → v i j = 0) (hvg : ∀ i j, ng ≤ j → v i j = 0) (hm : ∀ i, i < nb → 0 < m i) (hmz : ∀ i, nb ≤ i → m i = 0)
    (hrb : ∀ i, i < nb → ∃ j, j < ng ∧ 0 < v i j) (hrg : ∀ j, j < ng → ∃ i, i < nb ∧ 0 < v i j) :
    ∃ p : Nat → Rat, (∀ j, j < ng → 0 < p j) ∧ (∀ j, j < 3 → ng ≤ j → p j = 0) ∧ (∀ S : Nat → Bool, mr_c p S ≤ mr_c m (mq_g (mr_L nb ng v p) S)) ∧ p 0 + p 1 + p 2 = m 0 + m 1 + m 2 := by
  have hm0 : ∀ i, i < 3 → 0 ≤ m i := fun i hi => by
    by_cases h : i < nb
    · exact Rat.le_of_lt (hm i h)
    · rw [hmz i (by omega)]; exact Rat.le_refl
  let w : Nat → Rat := fun j => mr_mx2 (v 0 j) (mr_mx2 (v 1 j) (v 2 j))
  have hw : ∀ i j, i < 3 → v i j ≤ w j := fun i j hi => by
    have h1 := (mr_mx2_ge (a := v 0 j) (b := mr_mx2 (v 1 j) (v 2 j)))
    have h2 := (mr_mx2_ge (a := v 1 j) (b := v 2 j))
    rcases (show i = 0 ∨ i = 1 ∨ i = 2 by omega) with rfl | rfl | rfl
    · exact h1.1
    · exact Rat.le_trans h2.1 h1.2
    · exact Rat.le_trans h2.2 h1.2
  have hwe : ∀ j, ∃ i, i < 3 ∧ w j = v i j := fun j => by
    rcases mr_mx2_or (a := v 0 j) (b := mr_mx2 (v 1 j) (v 2 j)) with h | h
    · exact ⟨0, by decide, h⟩
    · rcases mr_mx2_or (a := v 1 j) (b := v 2 j) with h' | h'
      · exact ⟨1, by decide, h.trans h'⟩
      · exact ⟨2, by decide, h.trans h'⟩
  have hwp : ∀ j, j < ng → 0 < w j := fun j hj => by
    obtain ⟨i, hi, h⟩ := hrg j hj
    have := hw i j (by omega)
    grind
  have hwz : ∀ j, ng ≤ j → w j = 0 := fun j hj => by
    obtain ⟨i, -, h⟩ := hwe j
    rw [h, hvg i j hj]
  have hw0 : ∀ j, 0 ≤ w j := fun j => by
    by_cases h : j < ng
    · exact Rat.le_of_lt (hwp j h)
    · rw [hwz j (by omega)]; exact Rat.le_refl
  obtain ⟨e, he, hee⟩ : ∃ e : Rat, 0 < e ∧ ∀ i, i < 3 → (i < nb → e ≤ m i) := by
    obtain ⟨d, hd, h⟩ := mr_Sm.all (P := fun i e => i < nb → e ≤ m i) (fun i => mr_Sm.imp _ fun hi => ⟨m i, hm i hi, fun e _ h => h⟩) 3
    exact ⟨d, hd, h d hd Rat.le_refl⟩
  have hW : 0 < w 0 + w 1 + w 2 + 1 := by
    have h0 := hw0 0
    have h1 := hw0 1
    have h2 := hw0 2
    grind
  have hWn : w 0 + w 1 + w 2 + 1 ≠ 0 := by grind
  let u : Rat := e / (w 0 + w 1 + w 2 + 1)
  have hu : 0 < u := (Rat.lt_div_iff hW).mpr (by grind)
  have huW : u * (w 0 + w 1 + w 2 + 1) = e := Rat.div_mul_cancel hWn
  let lo : Nat → Rat := fun j => u * w j
  have hlo : ∀ j, j < 3 → j < ng → 0 < lo j := fun j _ hj => Rat.mul_pos hu (hwp j hj)
  have hlo0 : ∀ j, j < 3 → ng ≤ j → lo j = 0 := fun j _ hj => by
    show u * w j = 0
    rw [hwz j hj]
    grind
  have hlon : ∀ j, j < 3 → 0 ≤ lo j := fun j _ => Rat.mul_nonneg (Rat.le_of_lt hu) (hw0 j)
  let E0 : Nat → Nat → Bool := fun i j => decide (i < nb ∧ j < ng ∧ 0 < v i j ∧ v i j = w j)
  have h0 : mr_feas nb ng v m lo E0 lo := by
    refine ⟨fun j _ => Rat.le_refl, fun j hj hn => by rw [hlo0 j hj hn]; exact Rat.le_refl, fun i hi j hj hE => ?_, fun b0 b1 b2 => ?_⟩
    · obtain ⟨h1, h2, h3, h4⟩ := of_decide_eq_true hE
      refine ⟨⟨h1, h2, h3⟩, fun k hk hkg => ?_⟩
      show v i k * (u * w j) ≤ v i j * (u * w k)
      rw [h4]
      have a1 := hw i k hi
      have a2 := Rat.mul_le_mul_of_nonneg_right a1 (Rat.mul_nonneg (Rat.le_of_lt hu) (hw0 j))
      grind
    · generalize mr_S b0 b1 b2 = S
      by_cases hx : ∃ j, j < ng ∧ S j = true
      · obtain ⟨j, hj, hSj⟩ := hx
        obtain ⟨i, hi, hij⟩ := hwe j
        have hwj := hwp j hj
        have hib : i < nb := by
          apply Classical.byContradiction
          intro hn
          rw [hij, hvz i j (by omega)] at hwj
          exact absurd hwj Rat.lt_irrefl
        have hE : E0 i j = true := decide_eq_true ⟨hib, hj, by rw [← hij]; exact hwj, hij.symm⟩
        have hg := mq_g_in (L := E0) (S := S) (i := i) (show j < 3 by omega) hSj hE
        have a1 : mr_c lo S ≤ mr_c lo (fun _ => true) := mr_cm hlon (fun _ _ _ => rfl)
        have a2 : mr_c lo (fun _ => true) = u * w 0 + u * w 1 + u * w 2 := rfl
        have a3 : mr_c m (fun a => decide (a = i)) ≤ mr_c m (mq_g E0 S) := mr_cm hm0 (fun a _ ha => by rw [of_decide_eq_true ha]; exact hg)
        have a4 : mr_c m (fun a => decide (a = i)) = m i := by
          unfold mr_c
          rcases (show i = 0 ∨ i = 1 ∨ i = 2 by omega) with rfl | rfl | rfl <;> simp <;> grind
        have a5 := hee i hi hib
        grind
      · have hz : mr_c lo S = 0 := by
          have h1 : mr_c lo S = mr_c lo (fun _ => false) := by
            unfold mr_c
            have hb : ∀ j, j < 3 → (bif S j then lo j else 0) = 0 := fun j hj => by
              cases hs : S j
              · rfl
              · by_cases hjg : j < ng
                · exact absurd ⟨j, hjg, hs⟩ hx
                · exact hlo0 j hj (by omega)
            rw [hb 0 (by decide), hb 1 (by decide), hb 2 (by decide)]
            rfl
          rw [h1]
          show (0 : Rat) + 0 + 0 = 0
          grind
        rw [hz]
        exact mr_c0 hm0
  obtain ⟨E, p, hF, hmax⟩ := mr_best nb ng v m lo hm0 h0
  have hp : ∀ j, j < ng → 0 < p j := fun j hj => by
    have h1 := hlo j (by omega) hj
    have h2 := hF.1 j (by omega)
    grind
  have hpz : ∀ j, j < 3 → ng ≤ j → p j = 0 := fun j hj hn => by
    have h1 := hlo0 j hj hn
    have h2 := hF.1 j hj
    have h3 := hF.2.1 j hj hn
    grind
  have hFL : mr_feas nb ng v m lo (mr_L nb ng v p) p := by
    refine ⟨hF.1, hF.2.1, fun i hi j hj he => ?_, fun b0 b1 b2 => ?_⟩
    · obtain ⟨h1, h2, h3, h4⟩ := mr_L_iff.mp he
      exact ⟨⟨h1, h2, h3⟩, fun k _ hkg => h4 k hkg⟩
    · refine Rat.le_trans (hF.2.2.2 b0 b1 b2) (mr_cm hm0 (fun i hi hg => ?_))
      obtain ⟨j, hj, hs, hl⟩ := mq_g_ex hg
      obtain ⟨⟨h1, h2, h3⟩, h4⟩ := hF.2.2.1 i hi j hj hl
      exact mq_g_in hj hs (mr_L_iff.mpr ⟨h1, h2, h3, fun k hk => h4 k (by omega) hk⟩)
  refine ⟨p, hp, hpz, mr_feas_H hFL, ?_⟩
  have hle : p 0 + p 1 + p 2 ≤ m 0 + m 1 + m 2 := by
    have h1 := mr_feas_H hFL (fun _ => true)
    have h2 : mr_c m (mq_g (mr_L nb ng v p) (fun _ => true)) ≤ mr_c m (fun _ => true) := mr_cm hm0 (fun _ _ _ => rfl)
    exact Rat.le_trans h1 h2
  apply Classical.byContradiction
  intro hne
  have hlt : p 0 + p 1 + p 2 < m 0 + m 1 + m 2 := by grind
  obtain ⟨F, q, hq, hq'⟩ := mr_improve hnb hng hv hm0 (fun i _ h => hmz i h) hlo hlo0 hrb hFL hlt
  have := hmax F q hq
  grind
