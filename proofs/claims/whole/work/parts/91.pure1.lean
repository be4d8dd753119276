/-! Pure part 8: the numbers of the machine told as whole numbers; loops that count. -/
def pz (x : Int) : Int64 := Int64.ofInt x
def pz_R (x : Int) : Prop := -9223372036854775808 ≤ x ∧ x ≤ 9223372036854775807
theorem pz_add (a b : Int) : pz a + pz b = pz (a + b) := (Int64.ofInt_add a b).symm
theorem pz_mul (a b : Int) : pz a * pz b = pz (a * b) := (Int64.ofInt_mul a b).symm
theorem pz_sub (a b : Int) : pz a - pz b = pz (a - b) := (Int64.ofInt_sub a b).symm
theorem pz_0 : (0 : Int64) = pz 0 := rfl
theorem pz_1 : (1 : Int64) = pz 1 := rfl
theorem pz_lt {a b : Int} (ha : pz_R a) (hb : pz_R b) : pz a < pz b ↔ a < b := Int64.ofInt_lt_iff_lt ha.1 ha.2 hb.1 hb.2
theorem pz_le {a b : Int} (ha : pz_R a) (hb : pz_R b) : pz a ≤ pz b ↔ a ≤ b := Int64.ofInt_le_iff_le ha.1 ha.2 hb.1 hb.2
theorem pz_toInt {a : Int} (ha : pz_R a) : (pz a).toInt = a := Int64.toInt_ofInt_of_le ha.1 (by have := ha.2; omega)
theorem pz_eq {a b : Int} (ha : pz_R a) (hb : pz_R b) : pz a = pz b ↔ a = b := ⟨fun h => by rw [← pz_toInt ha, ← pz_toInt hb, h], fun h => by rw [h]⟩
theorem pz_cmp {a b : Int} (ha : pz_R a) (hb : pz_R b) : lg_cmp (pz a) (pz b) = if b < a then 1 else if a = b then 0 else -1 := by
  unfold lg_cmp
  by_cases h1 : b < a
  · rw [if_pos h1, if_pos ((pz_lt hb ha).mpr h1)]
  · rw [if_neg h1, if_neg (fun q => h1 ((pz_lt hb ha).mp q))]
    by_cases h2 : a = b
    · rw [if_pos h2, if_pos (by rw [h2])]
    · rw [if_neg h2, if_neg (fun q => h2 ((pz_eq ha hb).mp q))]
theorem pz_div {a b : Int} (ha : pz_R a) (hb : pz_R b) (h0 : 0 ≤ a) : pz a / pz b = pz (a / b) := by
  have := @Int64.ofInt_tdiv a b ha.1 ha.2 hb.1 hb.2
  rw [Int.tdiv_eq_ediv_of_nonneg h0] at this
  exact this.symm
theorem pz_nI {n : Nat} (h : n < 2 ^ 31) : (nI n).toInt64 = pz n := by
  rw [nI_l h]; exact Int64.ofInt_eq_ofNat.symm
theorem pz_i0 : (0 : Int32) = nI 0 := rfl
theorem pz_i1 : (1 : Int32) = nI 1 := rfl
theorem pz_i2 : (2 : Int32) = nI 2 := rfl
theorem pz_i3 : (3 : Int32) = nI 3 := rfl
/-- a loop that counts -/
theorem pz_forA {S X : Type} {b : S → Option (S ⊕ X)} {x : X} (s : Nat → S) : ∀ (n j N : Nat), n < N → (∀ k, k < n → b (s (j + k)) = some (.inl (s (j + k + 1)))) → b (s (j + n)) = some (.inr x) → gq_it N b (s j) = some x
  | 0, j, N + 1, _, _, he => by
    unfold gq_it
    rw [show b (s j) = _ from he]
  | n + 1, j, N + 1, hN, h, he => by
    unfold gq_it
    rw [show b (s j) = _ from h 0 (by omega)]
    exact pz_forA s n (j + 1) N (by omega) (fun k hk => by
      have := h (k + 1) (by omega)
      rw [show j + (k + 1) = j + 1 + k by omega] at this
      exact this) (by rw [show j + 1 + n = j + (n + 1) by omega]; exact he)
theorem pz_for {S X : Type} {b : S → Option (S ⊕ X)} {x : X} (s : Nat → S) (j n : Nat) (hn : n < 1000000) (hj : j ≤ n) (h : ∀ k, j ≤ k → k < n → b (s k) = some (.inl (s (k + 1)))) (he : b (s n) = some (.inr x)) : gq_it 1000000 b (s j) = some x :=
  pz_forA s (n - j) j 1000000 (by omega) (fun k hk => h (j + k) (by omega) (by omega)) (by rw [show j + (n - j) = n by omega]; exact he)
theorem pz_ge {a b : Nat} (h : a < b) (hb : b ≤ 3) : ¬ nI b ≤ nI a := nI_ge h (by omega)
theorem pz_le' {a b : Nat} (h : a ≤ b) (hb : b ≤ 3) : nI a ≤ nI b := nI_le h (by omega)
theorem pz_g {α : Type} {k N : Nat} {t : Option α} (h : k < N) (hN : N < 2 ^ 31 := by omega) : gq_g (nI k) N t = t := gq_g_in (nI_in h hN)
theorem pz_c {n : Nat} (h : n < 2 ^ 31 := by omega) : (nI n).toNatClampNeg = n := nI_clamp h
/-- the sum of the first n -/
def pz_s (f : Nat → Int) : Nat → Int
  | 0 => 0
  | n + 1 => pz_s f n + f n
theorem pz_s3 {f : Nat → Int} {n : Nat} (hn : n ≤ 3) (h : ∀ j, n ≤ j → j < 3 → f j = 0) : pz_s f n = f 0 + f 1 + f 2 := by
  have h0 := h 0; have h1 := h 1; have h2 := h 2
  rcases (by omega : n = 0 ∨ n = 1 ∨ n = 2 ∨ n = 3) with rfl | rfl | rfl | rfl <;> simp [pz_s] <;> simp at h0 h1 h2 <;> omega
/-- the set with the number s -/
def pz_S (s : Nat) : Nat → Bool := fun j => s.testBit j
theorem pz_sc {f : Nat → Int} {s n : Nat} (hn : n ≤ 3) (h : ∀ j, n ≤ j → j < 3 → f j = 0 ∨ pz_S s j = false) : pz_s (fun j => bif pz_S s j then f j else 0) n = mq_c f (pz_S s) := by
  rw [pz_s3 hn (fun j h1 h2 => by rcases h j h1 h2 with q | q <;> rw [q] <;> simp)]
  rfl
theorem pz_has : ∀ s, s < 512 → ∀ j, j < 9 → ((nI s >>> (nI j &&& 31)) &&& 1 = 0 ↔ pz_S s j = false) := by decide +kernel
theorem pz_has' {s j : Nat} (hs : s < 512) (hj : j < 9) : f_K_has (nI s) (nI j) = some (if pz_S s j = true then 1 else 0) := by
  unfold f_K_has
  have := pz_has s hs j hj
  cases h : pz_S s j <;> simp [h] at this ⊢ <;> exact this
theorem pz_hasR {s j : Nat} (hs : s < 512) (hj : j < 9) : f_R_has (nI s) (nI j) = some (if pz_S s j = true then 1 else 0) := by
  unfold f_R_has
  have := pz_has s hs j hj
  have h3 : ∀ s, s < 512 → ∀ j, j < 9 → ((nI s >>> (nI j &&& 31)) &&& 1 = 1 ↔ pz_S s j = true) := by decide +kernel
  have h4 := h3 s hs j hj
  cases h : pz_S s j <;> simp [h] at this h4 ⊢ <;> simp [this, h4]
/-! Pure part 9: Euclid's way, lowest terms. -/
theorem pe_half {b r : Nat} (h0 : 0 < r) (h : r < b) : 2 * (b % r) < b := by
  by_cases h2 : 2 * r ≤ b
  · have := Nat.mod_lt b h0; omega
  · have : b % r = b - r := by
      rw [Nat.mod_eq_sub_mod (by omega), Nat.mod_eq_of_lt (by omega)]
    omega
theorem pe_R {n : Nat} (h : n < 2 ^ 62) : pz_R n := by
  constructor <;> omega
theorem pe_mod {a b : Nat} (ha : a < 2 ^ 62) (hb : b < 2 ^ 62) : pz a - pz a / pz b * pz b = pz ((a % b : Nat) : Int) := by
  rw [pz_div (pe_R ha) (pe_R hb) (by omega), pz_mul, pz_sub]
  congr 1
  rw [Int.natCast_emod, Int.emod_def, Int.mul_comm]
theorem pe_K0 {N k a : Nat} (hk : k < 100) : gq_it (N + 1) fb_K_commonDivisor_9 (nI k, pz (0 : Nat), pz a) = some (pz a) := by
  unfold gq_it fb_K_commonDivisor_9
  have h1 : ¬ (100 : Int32) ≤ nI k := nI_ge (b := 100) hk (by omega)
  simp only [if_neg h1]
  rw [show lg_cmp (pz ((0 : Nat) : Int)) 0 = 0 from rfl]
  simp
theorem pe_K1 {N k a b : Nat} (hk : k < 100) (hb0 : 0 < b) (ha : a < 2 ^ 62) (hb : b < 2 ^ 62) : gq_it (N + 1) fb_K_commonDivisor_9 (nI k, pz b, pz a) = gq_it N fb_K_commonDivisor_9 (nI (k + 1), pz ((a % b : Nat) : Int), pz b) := by
  rw [gq_it]
  unfold fb_K_commonDivisor_9
  have h1 : ¬ (100 : Int32) ≤ nI k := nI_ge (b := 100) hk (by omega)
  have h2 : ¬ lg_cmp (pz b) 0 = 0 := by
    rw [pz_0, pz_cmp (pe_R hb) (by constructor <;> decide), if_pos (by omega)]; decide
  have h3 : ¬ pz b = 0 := fun q => by
    rw [pz_0, pz_eq (pe_R hb) (by constructor <;> decide)] at q; omega
  simp only [if_neg h1, if_neg h2]
  unfold gq_z
  simp only [if_neg h3, nI_1, pe_mod ha hb]
theorem pe_K : ∀ (n a b k N : Nat), a < 2 ^ 62 → b < 2 ^ n → n ≤ 61 → k + 2 * n < 99 → 2 * n < N → gq_it N fb_K_commonDivisor_9 (nI k, pz b, pz a) = some (pz ((Nat.gcd a b : Nat) : Int))
  | 0, a, b, k, N, ha, hb, _, hk, hN => by
    obtain ⟨M, rfl⟩ : ∃ M, N = M + 1 := ⟨N - 1, by omega⟩
    have : b = 0 := by omega
    subst this
    rw [pe_K0 (by omega), Nat.gcd_zero_right]
  | n + 1, a, b, k, N, ha, hb, hn, hk, hN => by
    obtain ⟨M, rfl⟩ : ∃ M, N = M + 2 := ⟨N - 2, by omega⟩
    have hb' : b < 2 ^ 62 := Nat.lt_of_lt_of_le hb (Nat.pow_le_pow_right (by omega) (by omega))
    by_cases h : b = 0
    · subst h; rw [pe_K0 (by omega), Nat.gcd_zero_right]
    · rw [pe_K1 (by omega) (by omega) ha hb']
      have hr := Nat.mod_lt a (show 0 < b by omega)
      by_cases h2 : a % b = 0
      · rw [h2, pe_K0 (by omega), Nat.gcd_comm, Nat.gcd_rec, h2, Nat.gcd_zero_left]
      · rw [pe_K1 (by omega) (by omega) hb' (by omega), pe_K n (a % b) (b % (a % b)) (k + 2) M (by omega) (by have := pe_half (show 0 < a % b by omega) hr; rw [Nat.pow_succ] at hb; omega) (by omega) (by omega) (by omega)]
        rw [Nat.gcd_comm (a % b), ← Nat.gcd_rec, ← Nat.gcd_rec, Nat.gcd_comm]
theorem pe_commonDivisor {a b : Nat} (ha : a < 2 ^ 62) (hb : b < 2 ^ 45) : f_K_commonDivisor (pz a) (pz b) = some (pz ((Nat.gcd a b : Nat) : Int)) := by
  unfold f_K_commonDivisor
  rw [show (0 : Int32) = nI 0 from rfl, pe_K 45 a b 0 1000000 ha hb (by omega) (by omega) (by omega)]
  rfl
theorem pe_R0 {N a : Nat} : gq_it (N + 1) fb_R_divisor_6 (pz (0 : Nat), pz a) = some (pz a) := by
  unfold gq_it fb_R_divisor_6
  rw [show lg_cmp (pz ((0 : Nat) : Int)) 0 = 0 from rfl]
  simp
theorem pe_R1 {N a b : Nat} (hb0 : 0 < b) (ha : a < 2 ^ 62) (hb : b < 2 ^ 62) : gq_it (N + 1) fb_R_divisor_6 (pz b, pz a) = gq_it N fb_R_divisor_6 (pz ((a % b : Nat) : Int), pz b) := by
  rw [gq_it]
  unfold fb_R_divisor_6
  have h2 : ¬ lg_cmp (pz b) 0 = 0 := by
    rw [pz_0, pz_cmp (pe_R hb) (by constructor <;> decide), if_pos (by omega)]; decide
  have h3 : ¬ pz b = 0 := fun q => by
    rw [pz_0, pz_eq (pe_R hb) (by constructor <;> decide)] at q; omega
  simp only [if_neg h2]
  unfold gq_z
  simp only [if_neg h3, pe_mod ha hb]
theorem pe_RD : ∀ (n a b N : Nat), a < 2 ^ 62 → b < 2 ^ n → n ≤ 61 → 2 * n < N → gq_it N fb_R_divisor_6 (pz b, pz a) = some (pz ((Nat.gcd a b : Nat) : Int))
  | 0, a, b, N, ha, hb, _, hN => by
    obtain ⟨M, rfl⟩ : ∃ M, N = M + 1 := ⟨N - 1, by omega⟩
    have : b = 0 := by omega
    subst this
    rw [pe_R0, Nat.gcd_zero_right]
  | n + 1, a, b, N, ha, hb, hn, hN => by
    obtain ⟨M, rfl⟩ : ∃ M, N = M + 2 := ⟨N - 2, by omega⟩
    have hb' : b < 2 ^ 62 := Nat.lt_of_lt_of_le hb (Nat.pow_le_pow_right (by omega) (by omega))
    by_cases h : b = 0
    · subst h; rw [pe_R0, Nat.gcd_zero_right]
    · rw [pe_R1 (by omega) ha hb']
      have hr := Nat.mod_lt a (show 0 < b by omega)
      by_cases h2 : a % b = 0
      · rw [h2, pe_R0, Nat.gcd_comm, Nat.gcd_rec, h2, Nat.gcd_zero_left]
      · rw [pe_R1 (by omega) hb' (by omega), pe_RD n (a % b) (b % (a % b)) M (by omega) (by have := pe_half (show 0 < a % b by omega) hr; rw [Nat.pow_succ] at hb; omega) (by omega) (by omega)]
        rw [Nat.gcd_comm (a % b), ← Nat.gcd_rec, ← Nat.gcd_rec, Nat.gcd_comm]
theorem pe_divisor {a b : Nat} (ha : a < 2 ^ 62) (hb : b < 2 ^ 61) : f_R_divisor (pz a) (pz b) = some (pz ((Nat.gcd a b : Nat) : Int)) := by
  unfold f_R_divisor
  rw [pe_RD 61 a b 1000000 ha hb (by omega) (by omega)]
  rfl
def pe_low (a b : Nat) (u : Int32) : Nat := if u = 0 then a / Nat.gcd a b else b / Nat.gcd a b
theorem pe_lowestK {a b : Nat} {u : Int32} (ha : a < 2 ^ 62) (hb : b < 2 ^ 45) (hb0 : 0 < b) : f_K_lowest (pz a) (pz b) u = some (pz (pe_low a b u)) := by
  have hg : 0 < Nat.gcd a b := Nat.gcd_pos_of_pos_right _ hb0
  have hgl : Nat.gcd a b ≤ b := Nat.gcd_le_right _ hb0
  have hgR := pe_R (show Nat.gcd a b < 2 ^ 62 by omega)
  have e1 : f_J_max_JJJ 1 (pz ((Nat.gcd a b : Nat) : Int)) = some (pz ((Nat.gcd a b : Nat) : Int)) := by
    unfold f_J_max_JJJ
    rw [pz_1, pz_cmp (by constructor <;> decide) hgR]
    by_cases h : Nat.gcd a b = 1
    · rw [h]; rfl
    · have h1 : ¬ ((Nat.gcd a b : Nat) : Int) < 1 := by omega
      have h2 : ¬ (1 : Int) = ((Nat.gcd a b : Nat) : Int) := by omega
      simp only [h1, h2, if_false]
      rfl
  have e2 : ¬ pz ((Nat.gcd a b : Nat) : Int) = 0 := fun q => by
    rw [pz_0, pz_eq hgR (by constructor <;> decide)] at q; omega
  unfold f_K_lowest
  rw [pe_commonDivisor ha hb]
  simp only [Option.bind_some, e1, gq_z, if_neg e2, pe_low, pz_div (pe_R ha) hgR (show (0 : Int) ≤ a by omega), pz_div (pe_R (show b < 2 ^ 62 by omega)) hgR (show (0 : Int) ≤ b by omega)]
  by_cases hu : u = 0
  · simp [hu]
  · simp [hu]
theorem pe_lowestR {a b : Nat} {u : Int32} (ha : a < 2 ^ 62) (hb : b < 2 ^ 61) (hb0 : 0 < b) : f_R_lowest (pz a) (pz b) u = some (pz (pe_low a b u)) := by
  have hg : 0 < Nat.gcd a b := Nat.gcd_pos_of_pos_right _ hb0
  have hgl : Nat.gcd a b ≤ b := Nat.gcd_le_right _ hb0
  have hgR := pe_R (show Nat.gcd a b < 2 ^ 62 by omega)
  have e2 : ¬ pz ((Nat.gcd a b : Nat) : Int) = 0 := fun q => by
    rw [pz_0, pz_eq hgR (by constructor <;> decide)] at q; omega
  unfold f_R_lowest
  rw [pe_divisor ha hb]
  simp only [Option.bind_some, gq_z, if_neg e2, pe_low, pz_div (pe_R ha) hgR (show (0 : Int) ≤ a by omega), pz_div (pe_R (show b < 2 ^ 62 by omega)) hgR (show (0 : Int) ≤ b by omega)]
  by_cases hu : u = 0
  · simp [hu]
  · simp [hu]
/-- equal fractions have the same lowest terms -/
theorem pe_same {a b c d : Nat} {u : Int32} (hb : 0 < b) (hd : 0 < d) (h : a * d = c * b) : pe_low a b u = pe_low c d u := by
  have g1 : 0 < Nat.gcd a b := Nat.gcd_pos_of_pos_right _ hb
  have g2 : 0 < Nat.gcd c d := Nat.gcd_pos_of_pos_right _ hd
  obtain ⟨x, hx⟩ := Nat.gcd_dvd_left a b
  obtain ⟨y, hy⟩ := Nat.gcd_dvd_right a b
  obtain ⟨z, hz⟩ := Nat.gcd_dvd_left c d
  obtain ⟨w, hw⟩ := Nat.gcd_dvd_right c d
  have c1 : Nat.gcd x y = 1 := by
    have := Nat.coprime_div_gcd_div_gcd g1
    rw [show a / Nat.gcd a b = x by rw [Nat.div_eq_of_eq_mul_right g1 hx], show b / Nat.gcd a b = y by rw [Nat.div_eq_of_eq_mul_right g1 hy]] at this
    exact this
  have c2 : Nat.gcd z w = 1 := by
    have := Nat.coprime_div_gcd_div_gcd g2
    rw [show c / Nat.gcd c d = z by rw [Nat.div_eq_of_eq_mul_right g2 hz], show d / Nat.gcd c d = w by rw [Nat.div_eq_of_eq_mul_right g2 hw]] at this
    exact this
  have e : x * w = z * y := by
    have e1 : (Nat.gcd a b * Nat.gcd c d) * (x * w) = (Nat.gcd a b * Nat.gcd c d) * (z * y) := by
      calc (Nat.gcd a b * Nat.gcd c d) * (x * w) = (Nat.gcd a b * x) * (Nat.gcd c d * w) := by ac_rfl
        _ = a * d := by rw [← hx, ← hw]
        _ = c * b := h
        _ = (Nat.gcd c d * z) * (Nat.gcd a b * y) := by rw [← hz, ← hy]
        _ = _ := by ac_rfl
    exact Nat.eq_of_mul_eq_mul_left (Nat.mul_pos g1 g2) e1
  have exz : x = z := by
    apply Nat.dvd_antisymm
    · exact Nat.Coprime.dvd_of_dvd_mul_right c1 ⟨w, e.symm⟩
    · exact Nat.Coprime.dvd_of_dvd_mul_right c2 ⟨y, e⟩
  have eyw : y = w := by
    apply Nat.dvd_antisymm
    · exact Nat.Coprime.dvd_of_dvd_mul_left (Nat.Coprime.symm c1) ⟨z, by rw [e, Nat.mul_comm]⟩
    · exact Nat.Coprime.dvd_of_dvd_mul_left (Nat.Coprime.symm c2) ⟨x, by rw [← e, Nat.mul_comm]⟩
  unfold pe_low
  rw [Nat.div_eq_of_eq_mul_right g1 hx, Nat.div_eq_of_eq_mul_right g1 hy, Nat.div_eq_of_eq_mul_right g2 hz, Nat.div_eq_of_eq_mul_right g2 hw, exz, eyw]
/-! Pure part 10: Demand's functions in whole numbers. -/
def pz_fst (P : Nat → Bool) : Nat → Nat → Option Nat
  | 0, _ => none
  | d + 1, a => if P a = true then some a else pz_fst P d (a + 1)
theorem pz_find {S X : Type} {b : S → Option (S ⊕ X)} {x : X} (s : Nat → S) (r : Nat → X) (P : Nat → Bool) : ∀ (d a N : Nat), d < N → (∀ k, a ≤ k → k < a + d → b (s k) = if P k = true then some (.inr (r k)) else some (.inl (s (k + 1)))) → b (s (a + d)) = some (.inr x) → gq_it N b (s a) = some ((pz_fst P d a).elim x r)
  | 0, a, N + 1, _, _, he => by
    unfold gq_it
    rw [show b (s a) = _ from he]
    rfl
  | d + 1, a, N + 1, hN, h, he => by
    unfold gq_it
    rw [h a (Nat.le_refl _) (by omega), pz_fst]
    by_cases hp : P a = true
    · rw [if_pos hp, if_pos hp]; rfl
    · rw [if_neg hp, if_neg hp]
      exact pz_find s r P d (a + 1) N (by omega) (fun k h1 h2 => h k (by omega) (by omega)) (by rw [show a + 1 + d = a + (d + 1) by omega]; exact he)
theorem pz_fst_none {P : Nat → Bool} : ∀ {d a : Nat}, pz_fst P d a = none ↔ ∀ k, a ≤ k → k < a + d → P k = false
  | 0, a => by simp [pz_fst]; omega
  | d + 1, a => by
    rw [pz_fst]
    by_cases hp : P a = true
    · rw [if_pos hp]
      simp only [reduceCtorEq, false_iff]
      intro h; rw [h a (Nat.le_refl _) (by omega)] at hp; cases hp
    · rw [if_neg hp, pz_fst_none]
      constructor
      · intro h k h1 h2
        by_cases e : k = a
        · subst e; exact Bool.not_eq_true _ ▸ hp
        · exact h k (by omega) (by omega)
      · intro h k h1 h2; exact h k (by omega) (by omega)
theorem pz_fst_some {P : Nat → Bool} : ∀ {d a n : Nat}, pz_fst P d a = some n → P n = true ∧ a ≤ n ∧ n < a + d
  | 0, a, n => by simp [pz_fst]
  | d + 1, a, n => by
    rw [pz_fst]
    by_cases hp : P a = true
    · rw [if_pos hp]; intro h; cases h; exact ⟨hp, by omega, by omega⟩
    · rw [if_neg hp]; intro h
      have := pz_fst_some h
      exact ⟨this.1, by omega, by omega⟩
theorem pz_fst_congr {P Q : Nat → Bool} : ∀ {d a : Nat}, (∀ k, a ≤ k → k < a + d → P k = Q k) → pz_fst P d a = pz_fst Q d a
  | 0, a, _ => rfl
  | d + 1, a, h => by
    rw [pz_fst, pz_fst, h a (by omega) (by omega), pz_fst_congr (fun k h1 h2 => h k (by omega) (by omega))]
theorem pz_sh : ∀ g, g ≤ 3 → (1 : Int32) <<< (nI g &&& 31) = nI (2 ^ g) := by decide +kernel
theorem pz_shm : ∀ g, g ≤ 3 → (1 : Int32) <<< (nI g &&& 31) - 1 = nI (2 ^ g - 1) := by decide +kernel
theorem pz_p2 : ∀ g, g ≤ 3 → 2 ^ g ≤ 8 := by decide
theorem pz_cell {i j : Nat} : nI i * 3 + nI j = nI (3 * i + j) := by
  rw [pz_i3, pk_mul, nI_add, Nat.mul_comm]
theorem pd_cell {i j : Nat} : f_K_cell (nI i) (nI j) = some (nI (3 * i + j)) := by
  unfold f_K_cell; rw [pz_cell]
theorem pd_costOf {ng : Nat} {dbu : Int32} {dun : Int64} {dco dfu : Nat → Int64} {dli : Nat → Int32} {c : Nat → Int} {s : Nat} (hg : ng ≤ 3) (hs : s < 8) (hc : ∀ j, j < ng → dco j = pz (c j)) :
    f_D_costOf dbu (nI ng) dun dco dfu dli (nI s) = some (pz (pz_s (fun j => bif pz_S s j then c j else 0) ng)) := by
  unfold f_D_costOf
  rw [show ((0 : Int32), (0 : Int64)) = (fun k => (nI k, pz (pz_s (fun j => bif pz_S s j then c j else 0) k))) 0 from rfl, pz_for (fun k => (nI k, pz (pz_s (fun j => bif pz_S s j then c j else 0) k))) 0 ng (by omega) (by omega) (x := pz (pz_s (fun j => bif pz_S s j then c j else 0) ng)) (fun k _ hk => ?_) ?_]
  · rfl
  · simp only [fb_D_costOf_5, if_pos (pz_le' (Nat.le_refl ng) hg)]
  · simp only [fb_D_costOf_5, if_neg (pz_ge hk hg), pz_has' (show s < 512 by omega) (show k < 9 by omega), Option.bind_some, pz_s]
    cases h : pz_S s k
    · simp [nI_1]
    · simp [nI_1, pz_g (show k < 3 by omega), pz_c (n := k) (by omega), hc k hk, pz_add]
theorem pz_and0 : ∀ l, l < 8 → ∀ s, s < 8 → ((nI l &&& nI s = 0) ↔ (mq_g (fun _ => pz_S l) (pz_S s) 0 = false)) := by decide +kernel
theorem pd_fundsFor {nb : Nat} {dgo : Int32} {dun : Int64} {dco dfu : Nat → Int64} {dli : Nat → Int32} {f : Nat → Int} {l : Nat → Nat} {s : Nat} (hb : nb ≤ 3) (hs : s < 8) (hf : ∀ i, i < nb → dfu i = pz (f i)) (hl : ∀ i, i < nb → dli i = nI (l i)) (hl8 : ∀ i, i < nb → l i < 8) :
    f_D_fundsFor (nI nb) dgo dun dco dfu dli (nI s) = some (pz (pz_s (fun i => bif mq_g (fun i => pz_S (l i)) (pz_S s) i then f i else 0) nb)) := by
  unfold f_D_fundsFor
  rw [show ((0 : Int32), (0 : Int64)) = (fun k => (nI k, pz (pz_s (fun i => bif mq_g (fun i => pz_S (l i)) (pz_S s) i then f i else 0) k))) 0 from rfl, pz_for (fun k => (nI k, pz (pz_s (fun i => bif mq_g (fun i => pz_S (l i)) (pz_S s) i then f i else 0) k))) 0 nb (by omega) (by omega) (x := pz (pz_s (fun i => bif mq_g (fun i => pz_S (l i)) (pz_S s) i then f i else 0) nb)) (fun k _ hk => ?_) ?_]
  · rfl
  · simp only [fb_D_fundsFor_5, if_pos (pz_le' (Nat.le_refl nb) hb)]
  · have h3 : k < 3 := by omega
    have e := pz_and0 (l k) (hl8 k hk) s hs
    have e2 : mq_g (fun _ => pz_S (l k)) (pz_S s) 0 = mq_g (fun i => pz_S (l i)) (pz_S s) k := rfl
    rw [e2] at e
    simp only [fb_D_fundsFor_5, if_neg (pz_ge hk hb), pz_g h3, pz_c (n := k) (by omega), pz_s, hl k hk, hf k hk, nI_1, pz_add]
    cases h : mq_g (fun i => pz_S (l i)) (pz_S s) k
    · rw [if_pos (e.mpr h)]; simp
    · rw [if_neg (fun q => by rw [e.mp q] at h; cases h)]; simp
theorem pd_firstTooDear {nb ng : Nat} {dun : Int64} {dco dfu : Nat → Int64} {dli : Nat → Int32} {c f : Nat → Int} {l : Nat → Nat} (hb : nb ≤ 3) (hg : ng ≤ 3) (hc : ∀ j, j < ng → dco j = pz (c j)) (hf : ∀ i, i < nb → dfu i = pz (f i)) (hl : ∀ i, i < nb → dli i = nI (l i)) (hl8 : ∀ i, i < nb → l i < 8)
    (hR : ∀ s, s < 8 → pz_R (pz_s (fun j => bif pz_S s j then c j else 0) ng) ∧ pz_R (pz_s (fun i => bif mq_g (fun i => pz_S (l i)) (pz_S s) i then f i else 0) nb)) :
    f_D_firstTooDear (nI nb) (nI ng) dun dco dfu dli = some ((pz_fst (fun s => decide (pz_s (fun i => bif mq_g (fun i => pz_S (l i)) (pz_S s) i then f i else 0) nb < pz_s (fun j => bif pz_S s j then c j else 0) ng)) (2 ^ ng - 1) 1).elim 0 nI) := by
  have hp := pz_p2 ng hg
  have hp0 : 0 < 2 ^ ng := Nat.pow_pos (by omega)
  unfold f_D_firstTooDear
  rw [pz_i1, pz_find (x := .inr ()) nI (fun k => .inl (nI k)) (fun s => decide (pz_s (fun i => bif mq_g (fun i => pz_S (l i)) (pz_S s) i then f i else 0) nb < pz_s (fun j => bif pz_S s j then c j else 0) ng)) (2 ^ ng - 1) 1 1000000 (by omega) (fun k h1 h2 => ?_) ?_]
  · cases h : pz_fst (fun s => decide (pz_s (fun i => bif mq_g (fun i => pz_S (l i)) (pz_S s) i then f i else 0) nb < pz_s (fun j => bif pz_S s j then c j else 0) ng)) (2 ^ ng - 1) 1 <;> simp [gq_e]
  · simp only [fb_D_firstTooDear_2, pz_sh ng hg]
    rw [show 1 + (2 ^ ng - 1) = 2 ^ ng by omega, if_pos (nI_le (Nat.le_refl _) (by omega))]
  · have hk : k < 8 := by omega
    simp only [fb_D_firstTooDear_2, pz_sh ng hg, if_neg (nI_ge (show k < 2 ^ ng by omega) (by omega)), pd_costOf hg hk hc, pd_fundsFor hb hk hf hl hl8, Option.bind_some, nI_1]
    rw [pz_cmp (hR k hk).1 (hR k hk).2]
    by_cases h : pz_s (fun i => bif mq_g (fun i => pz_S (l i)) (pz_S k) i then f i else 0) nb < pz_s (fun j => bif pz_S k j then c j else 0) ng
    · simp only [if_pos h, decide_eq_true h, if_true]; rfl
    · rw [if_neg h]
      have : (if pz_s (fun j => bif pz_S k j then c j else 0) ng = pz_s (fun i => bif mq_g (fun i => pz_S (l i)) (pz_S k) i then f i else 0) nb then (0 : Int32) else -1) ≤ 0 := by
        split <;> decide
      rw [if_pos this]; simp [h]
theorem pd_sumsAgree {nb ng : Nat} {dun : Int64} {dco dfu : Nat → Int64} {dli : Nat → Int32} {c f : Nat → Int} (hb : nb ≤ 3) (hg : ng ≤ 3) (hc : ∀ j, j < ng → dco j = pz (c j)) (hf : ∀ i, i < nb → dfu i = pz (f i))
    (hR1 : pz_R (pz_s c ng)) (hR2 : pz_R (pz_s f nb)) :
    f_D_sumsAgree (nI nb) (nI ng) dun dco dfu dli = some (if pz_s f nb = pz_s c ng then 1 else 0) := by
  unfold f_D_sumsAgree
  have hp := pz_p2 ng hg
  have hp0 : 0 < 2 ^ ng := Nat.pow_pos (by omega)
  rw [show ((0 : Int32), (0 : Int64)) = (fun k => (nI k, pz (pz_s f k))) 0 from rfl, pz_for (fun k => (nI k, pz (pz_s f k))) 0 nb (by omega) (by omega) (x := pz (pz_s f nb)) (fun k _ hk => ?_) ?_]
  · simp only [Option.bind_some, pz_shm ng hg, pd_costOf hg (show 2 ^ ng - 1 < 8 by omega) hc]
    have e : pz_s (fun j => bif pz_S (2 ^ ng - 1) j then c j else 0) ng = pz_s c ng := by
      rcases (by omega : ng = 0 ∨ ng = 1 ∨ ng = 2 ∨ ng = 3) with rfl | rfl | rfl | rfl <;> rfl
    rw [e, pz_cmp hR2 hR1]
    by_cases h : pz_s f nb = pz_s c ng
    · simp [h]
    · simp only [if_neg h]
      by_cases h2 : pz_s c ng < pz_s f nb
      · simp [h2]
      · simp [h2]
  · simp only [fb_D_sumsAgree_4, if_pos (pz_le' (Nat.le_refl nb) hb)]
  · simp only [fb_D_sumsAgree_4, if_neg (pz_ge hk hb), pz_g (show k < 3 by omega), pz_c (n := k) (by omega), hf k hk, pz_add, nI_1, pz_s]
/-- the product of the first n but for place x -/
def pd_pr (d : Nat → Int) (x : Nat) : Nat → Int
  | 0 => 1
  | k + 1 => if k = x then pd_pr d x k else pd_pr d x k * d k
theorem pd_productButFor {ng : Nat} {dbu : Int32} {dun : Int64} {dco dfu : Nat → Int64} {dli : Nat → Int32} {pab pbe : Nat → Int64} {d : Nat → Int} {a1 : Int32} {x : Nat} (hg : ng ≤ 3) (hd : ∀ j, j < ng → pbe j = pz (d j)) (hx : ∀ k, k < 3 → (nI k = a1 ↔ k = x)) :
    f_D_productButFor dbu (nI ng) dun dco dfu dli pab pbe a1 = some (pz (pd_pr d x ng)) := by
  unfold f_D_productButFor
  rw [show ((0 : Int32), (1 : Int64)) = (fun k => (nI k, pz (pd_pr d x k))) 0 from rfl, pz_for (fun k => (nI k, pz (pd_pr d x k))) 0 ng (by omega) (by omega) (x := pz (pd_pr d x ng)) (fun k _ hk => ?_) ?_]
  · rfl
  · simp only [fb_D_productButFor_5, if_pos (pz_le' (Nat.le_refl ng) hg)]
  · simp only [fb_D_productButFor_5, if_neg (pz_ge hk hg), pd_pr, nI_1]
    by_cases h : k = x
    · rw [if_pos ((hx k (by omega)).mpr h), if_pos h]
    · rw [if_neg (fun q => h ((hx k (by omega)).mp q)), if_neg h, pz_g (show k < 3 by omega), pz_c (n := k) (by omega), hd k hk, pz_mul]
theorem pd_compare {a b : Int} (ha : pz_R a) (hb : pz_R b) : f_J_compare_JJI (pz a) (pz b) = some (if b < a then 1 else if a = b then 0 else -1) := by
  unfold f_J_compare_JJI
  rw [pz_cmp ha hb]
  by_cases h1 : b < a
  · simp only [if_pos h1]; rfl
  · simp only [if_neg h1]
    by_cases h2 : a = b
    · simp only [if_pos h2]; rfl
    · simp only [if_neg h2]; rfl
theorem pd_compareGoods {nb ng : Nat} {dun mun : Int64} {dbu mbu mgo mso dgo : Int32} {dco dfu : Nat → Int64} {dli mpu mwo : Nat → Int32} {c : Nat → Int} {v : Nat → Nat → Nat} {i a b : Nat} (hb : nb ≤ 3) (hg : ng ≤ 3) (hc : ∀ j, j < ng → dco j = pz (c j)) (hv : ∀ i j, i < nb → j < ng → mwo (3 * i + j) = nI (v i j))
    (hv9 : ∀ i j, i < nb → j < ng → v i j ≤ 9) (hR : ∀ i j k, i < nb → j < ng → k < ng → pz_R (v i j * c k)) (hi : i < nb) (ha : a < ng) (hbb : b < ng) :
    f_D_compareGoods dbu dgo dun dco dfu dli mbu mgo mpu mwo mso mun (nI i) (nI a) (nI b) = some (if v i b * c a < v i a * c b then 1 else if v i a * c b = v i b * c a then 0 else -1) := by
  have v1 := hv9 i a hi ha
  have v2 := hv9 i b hi hbb
  unfold f_D_compareGoods
  simp only [pd_cell, Option.bind_some, pz_g (show 3 * i + a < 9 by omega), pz_g (show 3 * i + b < 9 by omega), pz_g (show a < 3 by omega), pz_g (show b < 3 by omega), pz_c (n := 3 * i + a) (by omega), pz_c (n := 3 * i + b) (by omega), pz_c (n := a) (by omega), pz_c (n := b) (by omega), hv i a hi ha, hv i b hi hbb, hc a ha, hc b hbb, pz_nI (show v i a < 2 ^ 31 by omega), pz_nI (show v i b < 2 ^ 31 by omega), pz_mul]
  rw [pd_compare (hR i a b hi ha hbb) (hR i b a hi hbb ha)]; rfl
def pd_top (x c : Nat → Int) : Nat → Nat
  | 0 => 0
  | k + 1 => if x (pd_top x c k) * c k < x k * c (pd_top x c k) then k else pd_top x c k
theorem pd_top_lt {x c : Nat → Int} : ∀ {n : Nat}, pd_top x c (n + 1) ≤ n
  | 0 => by unfold pd_top; split <;> simp [pd_top]
  | n + 1 => by
    have := @pd_top_lt x c n
    rw [pd_top]; split <;> omega
theorem pd_mul3 {a b c d e f : Int} (hb : 0 < b) (hd : 0 ≤ d) (hf : 0 < f) (h1 : a * b ≤ c * d) (h2 : c * f ≤ e * b) : a * f ≤ e * d := by
  have q1 : (a * b) * f ≤ (c * d) * f := Int.mul_le_mul_of_nonneg_right h1 (Int.le_of_lt hf)
  have q2 : (c * f) * d ≤ (e * b) * d := Int.mul_le_mul_of_nonneg_right h2 hd
  have q3 : (a * f) * b ≤ (e * d) * b := by
    calc (a * f) * b = (a * b) * f := by rw [Int.mul_assoc, Int.mul_comm f, ← Int.mul_assoc]
      _ ≤ (c * d) * f := q1
      _ = (c * f) * d := by rw [Int.mul_assoc, Int.mul_comm d, ← Int.mul_assoc]
      _ ≤ (e * b) * d := q2
      _ = (e * d) * b := by rw [Int.mul_assoc, Int.mul_comm b, ← Int.mul_assoc]
  exact Int.le_of_mul_le_mul_right q3 hb
theorem pd_top_best {x c : Nat → Int} : ∀ {n : Nat}, (∀ j, j < n → 0 < c j) → ∀ j, j < n → x j * c (pd_top x c n) ≤ x (pd_top x c n) * c j
  | 0, _, j, hj => by omega
  | n + 1, hc, j, hj => by
    have ih := @pd_top_best x c n (fun j h => hc j (by omega))
    have ht : 0 < n → pd_top x c n < n := fun h => by
      have := @pd_top_lt x c (n - 1)
      rw [show n - 1 + 1 = n by omega] at this; omega
    rw [pd_top]
    split
    · rename_i h
      by_cases e : j = n
      · subst e; exact Int.le_refl _
      · have h1 := ih j (by omega)
        exact pd_mul3 (hc _ (by have := ht (by omega); omega)) (Int.le_of_lt (hc j (by omega))) (hc n (by omega)) h1 (Int.le_of_lt h)
    · rename_i h
      by_cases e : j = n
      · subst e; exact Int.not_lt.mp h
      · exact ih j (by omega)
/-- the number of the set of those below n for which P holds -/
def pd_set (P : Nat → Bool) : Nat → Nat
  | 0 => 0
  | k + 1 => if P k = true then pd_set P k ||| (1 <<< k) else pd_set P k
theorem pd_set_bit {P : Nat → Bool} {n j : Nat} (hn : n ≤ 3) (hj : j < 3) : pz_S (pd_set P n) j = (decide (j < n) && P j) := by
  rcases (by omega : n = 0 ∨ n = 1 ∨ n = 2 ∨ n = 3) with rfl | rfl | rfl | rfl <;> rcases (by omega : j = 0 ∨ j = 1 ∨ j = 2) with rfl | rfl | rfl <;> simp only [pd_set, pz_S] <;> cases P 0 <;> cases P 1 <;> cases P 2 <;> decide
theorem pd_set_lt {P : Nat → Bool} {n : Nat} (hn : n ≤ 3) : pd_set P n < 2 ^ n := by
  rcases (by omega : n = 0 ∨ n = 1 ∨ n = 2 ∨ n = 3) with rfl | rfl | rfl | rfl <;> simp only [pd_set] <;> cases P 0 <;> cases P 1 <;> cases P 2 <;> decide
theorem pd_or : ∀ s, s < 8 → ∀ k, k < 3 → nI s ||| (1 <<< (nI k &&& 31)) = nI (s ||| 1 <<< k) := by decide +kernel
theorem pd_likedBy {nb ng : Nat} {dun mun : Int64} {dbu mbu mgo mso : Int32} {dco dfu : Nat → Int64} {dli mpu mwo : Nat → Int32} {c : Nat → Int} {v : Nat → Nat → Nat} {i : Nat} (hb : nb ≤ 3) (hg : ng ≤ 3) (hg0 : 0 < ng) (hc : ∀ j, j < ng → dco j = pz (c j)) (hv : ∀ i j, i < nb → j < ng → mwo (3 * i + j) = nI (v i j))
    (hv9 : ∀ i j, i < nb → j < ng → v i j ≤ 9) (hR : ∀ i j k, i < nb → j < ng → k < ng → pz_R (v i j * c k)) (hi : i < nb) :
    f_D_likedBy dbu (nI ng) dun dco dfu dli mbu mgo mpu mwo mso mun (nI i) = some (nI (pd_set (fun j => decide ((v i j : Int) * c (pd_top (fun j => v i j) c ng) = v i (pd_top (fun j => v i j) c ng) * c j)) ng)) := by
  have ht : ∀ n, 0 < n → pd_top (fun j => (v i j : Int)) c n < n := fun n h => by
    have := @pd_top_lt (fun j => (v i j : Int)) c (n - 1)
    rw [show n - 1 + 1 = n by omega] at this; omega
  have e1 : gq_it 1000000 (fb_D_likedBy_5 dbu (nI ng) dun dco dfu dli mbu mgo mpu mwo mso mun (nI i)) (nI 1, nI (pd_top (fun j => (v i j : Int)) c 1)) = some (nI (pd_top (fun j => (v i j : Int)) c ng)) := by
    refine pz_for (fun k => (nI k, nI (pd_top (fun j => (v i j : Int)) c k))) 1 ng (by omega) (by omega) (fun k h1 hk => ?_) ?_
    · simp only [fb_D_likedBy_5, if_neg (pz_ge hk hg), pd_compareGoods hb hg hc hv hv9 hR hi hk (show pd_top (fun j => (v i j : Int)) c k < ng by have := ht k (by omega); omega), Option.bind_some, nI_1]
      rw [pd_top]
      by_cases h : (v i (pd_top (fun j => (v i j : Int)) c k) : Int) * c k < v i k * c (pd_top (fun j => (v i j : Int)) c k)
      · simp only [if_pos h]; rfl
      · simp only [if_neg h]; rw [if_pos (by split <;> decide)]
    · simp only [fb_D_likedBy_5, if_pos (pz_le' (Nat.le_refl ng) hg)]
  generalize htt : pd_top (fun j => (v i j : Int)) c ng = t at *
  have htn : t < ng := by rw [← htt]; exact ht ng hg0
  have e2 : gq_it 1000000 (fb_D_likedBy_41 dbu (nI ng) dun dco dfu dli mbu mgo mpu mwo mso mun (nI i) (nI t)) (0, 0) = some (nI (pd_set (fun j => decide ((v i j : Int) * c t = v i t * c j)) ng)) := by
    refine pz_for (fun k => (nI k, nI (pd_set (fun j => decide ((v i j : Int) * c t = v i t * c j)) k))) 0 ng (by omega) (by omega) (fun k h1 hk => ?_) ?_
    · simp only [fb_D_likedBy_41, if_neg (pz_ge hk hg), pd_compareGoods hb hg hc hv hv9 hR hi hk htn, Option.bind_some, nI_1]
      rw [pd_set]
      have h8 : pd_set (fun j => decide ((v i j : Int) * c t = v i t * c j)) k < 8 := Nat.lt_of_lt_of_le (pd_set_lt (by omega)) (pz_p2 k (by omega))
      rw [pd_or _ h8 k (by omega)]
      by_cases h : (v i k : Int) * c t = v i t * c k
      · have h' : ¬ ((v i t : Int) * c k < v i k * c t) := by omega
        simp only [if_neg h', if_pos h, decide_eq_true h, if_true]
      · simp only [if_neg h, decide_eq_false h]
        by_cases h' : (v i t : Int) * c k < v i k * c t
        · simp [h']
        · simp [h']
    · simp only [fb_D_likedBy_41, if_pos (pz_le' (Nat.le_refl ng) hg)]
  unfold f_D_likedBy
  rw [show ((1 : Int32), (0 : Int32)) = (nI 1, nI (pd_top (fun j => (v i j : Int)) c 1)) from by simp [pd_top]; exact ⟨rfl, rfl⟩, e1, Option.bind_some, e2]
  rfl
/-! Pure part 11: Demand's look: prices and money in parts of a unit, who likes what. -/
theorem pz_updL {F d : Nat → Int64} {k : Nat} : vp_updL (fun j => if j < k then F j else d j) k (F k) = fun j => if j < k + 1 then F j else d j := by
  funext j
  unfold vp_updL
  by_cases h : j = k
  · subst h; simp
  · simp only [if_neg h]
    by_cases h2 : j < k
    · rw [if_pos h2, if_pos (by omega)]
    · rw [if_neg h2, if_neg (by omega)]
theorem pz_updI {F d : Nat → Int32} {k : Nat} : upd (fun j => if j < k then F j else d j) k (F k) = fun j => if j < k + 1 then F j else d j := by
  funext j
  unfold upd
  by_cases h : j = k
  · subst h; simp
  · simp only [if_neg h]
    by_cases h2 : j < k
    · rw [if_pos h2, if_pos (by omega)]
    · rw [if_neg h2, if_neg (by omega)]
/-- the market's numbers keep their bounds; 0 where there is no buyer or good -/
def pm_A (nb ng : Nat) (m : Nat → Nat) (v : Nat → Nat → Nat) : Prop :=
  nb ≤ 3 ∧ ng ≤ 3 ∧ (∀ i, i < nb → 1 ≤ m i ∧ m i ≤ 20) ∧ (∀ i, nb ≤ i → m i = 0) ∧ (∀ i j, v i j ≤ 9) ∧ (∀ i j, nb ≤ i ∨ ng ≤ j → v i j = 0)
def pm_rdy (nb ng : Nat) (v : Nat → Nat → Nat) : Prop :=
  0 < nb ∧ 0 < ng ∧ (∀ i, i < nb → ∃ j, j < ng ∧ 0 < v i j) ∧ (∀ j, j < ng → ∃ i, i < nb ∧ 0 < v i j)
def pd_U (d : Nat → Int) (ng : Nat) : Int := pd_pr d 3 ng
def pd_c (a d : Nat → Int) (ng : Nat) : Nat → Int := fun j => if j < ng then a j * pd_pr d j ng else 0
def pd_l (ng : Nat) (v : Nat → Nat → Nat) (c : Nat → Int) : Nat → Nat := fun i => pd_set (fun j => decide ((v i j : Int) * c (pd_top (fun j => v i j) c ng) = v i (pd_top (fun j => v i j) c ng) * c j)) ng
theorem pd_look {nb ng : Nat} {dun mun : Int64} {dbu dgo mso : Int32} {dco dfu pab pbe : Nat → Int64} {dli mpu mwo : Nat → Int32} {m : Nat → Nat} {v : Nat → Nat → Nat} {a d : Nat → Int} (hA : pm_A nb ng m v) (hg0 : 0 < ng) (hm : ∀ i, i < nb → mpu i = nI (m i)) (hv : ∀ i j, i < nb → j < ng → mwo (3 * i + j) = nI (v i j))
    (ha : ∀ j, j < ng → pab j = pz (a j)) (hd : ∀ j, j < ng → pbe j = pz (d j)) (hR : ∀ k, k < ng → 0 ≤ pd_c a d ng k ∧ pd_c a d ng k ≤ 1000000000000000) :
    f_D_look dbu dgo dun dco dfu dli (nI nb) (nI ng) mpu mwo mso mun pab pbe = some (nI nb, nI ng, pz (pd_U d ng), (fun j => if j < ng then pz (pd_c a d ng j) else dco j), (fun i => if i < nb then pz (pd_U d ng * m i) else dfu i), (fun i => if i < nb then nI (pd_l ng v (pd_c a d ng) i) else dli i)) := by
  obtain ⟨hb, hg, hm1, -, hv9, -⟩ := hA
  have e1 : f_D_productButFor (nI nb) (nI ng) dun dco dfu dli pab pbe (-1) = some (pz (pd_U d ng)) :=
    pd_productButFor hg hd (by decide)
  have e2 : gq_it 1000000 (fb_D_look_28 dfu dli (nI nb) (nI ng) pab pbe (pz (pd_U d ng))) (0, dco) = some (fun j => if j < ng then pz (pd_c a d ng j) else dco j) := by
    refine pz_for (fun k => (nI k, fun j => if j < k then pz (pd_c a d ng j) else dco j)) 0 ng (by omega) (by omega) (fun k _ hk => ?_) ?_
    · have e : ∀ dco' : Nat → Int64, f_D_productButFor (nI nb) (nI ng) (pz (pd_U d ng)) dco' dfu dli pab pbe (nI k) = some (pz (pd_pr d k ng)) := fun _ =>
        pd_productButFor hg hd (fun q hq => nI_eq (by omega) (by omega))
      have e' : pz (a k * pd_pr d k ng) = pz (pd_c a d ng k) := by unfold pd_c; rw [if_pos hk]
      simp only [fb_D_look_28, if_neg (pz_ge hk hg), pz_g (show k < 3 by omega), e, Option.bind_some, nI_1, pz_c (n := k) (by omega), ha k hk, pz_mul, e']
      rw [pz_updL (F := fun j => pz (pd_c a d ng j))]
    · simp only [fb_D_look_28, if_pos (pz_le' (Nat.le_refl ng) hg)]
  have e3 : gq_it 1000000 (fb_D_look_63 (nI nb) (nI ng) mpu mwo mso mun (pz (pd_U d ng)) (fun j => if j < ng then pz (pd_c a d ng j) else dco j)) (0, dfu, dli) = some ((fun i => if i < nb then pz (pd_U d ng * m i) else dfu i), (fun i => if i < nb then nI (pd_l ng v (pd_c a d ng) i) else dli i)) := by
    refine pz_for (fun k => (nI k, (fun i => if i < k then pz (pd_U d ng * m i) else dfu i), (fun i => if i < k then nI (pd_l ng v (pd_c a d ng) i) else dli i))) 0 nb (by omega) (by omega) (fun k _ hk => ?_) ?_
    · have e : ∀ (dfu' : Nat → Int64) (dli' : Nat → Int32), f_D_likedBy (nI nb) (nI ng) (pz (pd_U d ng)) (fun j => if j < ng then pz (pd_c a d ng j) else dco j) dfu' dli' (nI nb) (nI ng) mpu mwo mso mun (nI k) = some (nI (pd_l ng v (pd_c a d ng) k)) := fun _ _ =>
        pd_likedBy hb hg hg0 (fun j hj => if_pos hj) hv (fun i j _ _ => hv9 i j) (fun i j k _ _ hk => by
          have h1 := hR k hk
          have h2 : ((v i j : Nat) : Int) ≤ 9 := by have := hv9 i j; omega
          have h3 : ((v i j : Nat) : Int) * pd_c a d ng k ≤ 9 * 1000000000000000 := Int.mul_le_mul h2 h1.2 h1.1 (by omega)
          have h4 : 0 ≤ ((v i j : Nat) : Int) * pd_c a d ng k := Int.mul_nonneg (by omega) h1.1
          constructor <;> omega) hk
      have h20 := (hm1 k hk).2
      have e4 : pz ((m k : Nat) : Int) * pz (pd_U d ng) = pz (pd_U d ng * m k) := by rw [pz_mul, Int.mul_comm]
      simp only [fb_D_look_63, if_neg (pz_ge hk hb), pz_g (show k < 3 by omega), e, Option.bind_some, nI_1, pz_c (n := k) (by omega), hm k hk, pz_nI (show m k < 2 ^ 31 by omega), e4]
      rw [pz_updL (F := fun i => pz (pd_U d ng * m i)), pz_updI (F := fun i => nI (pd_l ng v (pd_c a d ng) i))]
    · simp only [fb_D_look_63, if_pos (pz_le' (Nat.le_refl nb) hb)]
  unfold f_D_look
  rw [e1, Option.bind_some, e2, Option.bind_some, e3]
  rfl
theorem pd_l_lt {ng : Nat} {v : Nat → Nat → Nat} {c : Nat → Int} {i : Nat} (hg : ng ≤ 3) : pd_l ng v c i < 8 := Nat.lt_of_lt_of_le (pd_set_lt hg) (pz_p2 ng hg)
/-- the set that Demand finds is that of the likings -/
theorem pd_l_eq {nb ng : Nat} {v : Nat → Nat → Nat} {c : Nat → Int} {i j : Nat} (hg : ng ≤ 3) (hi : i < nb) (hj : j < 3) (hc : ∀ j, j < ng → 0 < c j) (hx : ∃ j, j < ng ∧ 0 < v i j) : pz_S (pd_l ng v c i) j = mq_L nb ng (fun i j => v i j) c i j := by
  unfold pd_l
  rw [pd_set_bit hg hj]
  obtain ⟨j0, hj0, hp0⟩ := hx
  have hb := @pd_top_best (fun j => (v i j : Int)) c ng hc
  have ht : pd_top (fun j => (v i j : Int)) c ng < ng := by
    have := @pd_top_lt (fun j => (v i j : Int)) c (ng - 1)
    rw [show ng - 1 + 1 = ng by omega] at this; omega
  generalize pd_top (fun j => (v i j : Int)) c ng = t at *
  have hct := hc t ht
  have hvt : (0 : Int) < v i t := by
    have h1 := hb j0 hj0
    have h2 := Int.mul_pos (show (0 : Int) < v i j0 by omega) hct
    have h3 := hc j0 hj0
    rcases Int.lt_or_le 0 (v i t : Int) with h | h
    · exact h
    · have : ((v i t : Nat) : Int) * c j0 ≤ 0 := Int.mul_nonpos_of_nonpos_of_nonneg h (Int.le_of_lt h3)
      omega
  rw [Bool.eq_iff_iff, mq_L_iff, Bool.and_eq_true, decide_eq_true_iff, decide_eq_true_iff]
  constructor
  · rintro ⟨h1, h2⟩
    refine ⟨hi, h1, ?_, fun k hk => ?_⟩
    · have h4 := Int.mul_pos hvt (hc j h1)
      rw [← h2] at h4
      exact Int.pos_of_mul_pos_left h4 hct
    · exact pd_mul3 hct (Int.le_of_lt (hc k hk)) (hc j h1) (hb k hk) (Int.le_of_eq h2.symm)
  · rintro ⟨-, h1, h2, h3⟩
    refine ⟨h1, Int.le_antisymm (hb j h1) (h3 t ht)⟩
/-! Pure part 12: the division of the money, step by step. -/
theorem pz_inv {S X : Type} {b : S → Option (S ⊕ X)} {Q : X → Prop} (I : Nat → S → Prop) (n : Nat) (step : ∀ k s, k < n → I k s → ∃ s', b s = some (.inl s') ∧ I (k + 1) s') (fin : ∀ s, I n s → ∃ x, b s = some (.inr x) ∧ Q x) :
    ∀ (d N k : Nat) (s : S), k + d = n → d < N → I k s → ∃ x, gq_it N b s = some x ∧ Q x
  | 0, N + 1, k, s, hk, _, hI => by
    obtain ⟨x, h1, h2⟩ := fin s (by rw [← hk]; exact hI)
    exact ⟨x, by unfold gq_it; rw [h1], h2⟩
  | d + 1, N + 1, k, s, hk, hN, hI => by
    obtain ⟨s', h1, h2⟩ := step k s (by omega) hI
    obtain ⟨x, h3, h4⟩ := pz_inv I n step fin d N (k + 1) s' (by omega) (by omega) h2
    exact ⟨x, by unfold gq_it; rw [h1]; exact h3, h4⟩
theorem pz_invM {S X : Type} {b : S → Option (S ⊕ X)} {Q : X → Prop} {s : S} (I : Nat → S → Prop) (a n : Nat) (ha : a ≤ n) (hn : n < 1000000) (h0 : I a s) (step : ∀ k s, k < n → I k s → ∃ s', b s = some (.inl s') ∧ I (k + 1) s') (fin : ∀ s, I n s → ∃ x, b s = some (.inr x) ∧ Q x) : ∃ x, gq_it 1000000 b s = some x ∧ Q x :=
  pz_inv I n step fin (n - a) 1000000 a s (by omega) (by omega) h0
theorem pv_minJ {a b : Int} (ha : pz_R a) (hb : pz_R b) : f_J_min_JJJ (pz a) (pz b) = some (pz (min a b)) := by
  unfold f_J_min_JJJ
  rw [pz_cmp ha hb, Int.min_def]
  by_cases h : b < a
  · rw [if_pos h, if_pos (by decide), if_neg (show ¬ a ≤ b by omega)]
  · rw [if_neg h, if_neg (by split <;> decide), if_pos (show a ≤ b by omega)]
/-- the most, when the sets up to k are looked at; L is without the liking in question -/
def pv_m (L : Nat → Nat → Bool) (f c : Nat → Int) (i j : Nat) : Nat → Int
  | 0 => min (f i) (c j)
  | k + 1 => if pz_S (k + 1) j = false ∧ mq_g L (pz_S (k + 1)) i = true then min (pv_m L f c i j k) (mq_c f (mq_g L (pz_S (k + 1))) - mq_c c (pz_S (k + 1))) else pv_m L f c i j k
theorem pv_m_le {L : Nat → Nat → Bool} {f c : Nat → Int} {i j : Nat} : ∀ {k : Nat}, pv_m L f c i j k ≤ f i ∧ pv_m L f c i j k ≤ c j
  | 0 => by unfold pv_m; omega
  | k + 1 => by
    have ih := @pv_m_le L f c i j k
    rw [pv_m]; split <;> omega
theorem pv_m_mono {L : Nat → Nat → Bool} {f c : Nat → Int} {i j s : Nat} : ∀ {k : Nat}, s ≤ k → pv_m L f c i j k ≤ pv_m L f c i j s
  | 0, h => by rw [show s = 0 by omega]; exact Int.le_refl _
  | k + 1, h => by
    by_cases e : s = k + 1
    · subst e; exact Int.le_refl _
    · have := @pv_m_mono L f c i j s k (by omega)
      rw [pv_m]; split <;> omega
theorem pv_m_in {L : Nat → Nat → Bool} {f c : Nat → Int} {i j s : Nat} (hs : 0 < s) (h1 : pz_S s j = false) (h2 : mq_g L (pz_S s) i = true) : pv_m L f c i j s ≤ mq_c f (mq_g L (pz_S s)) - mq_c c (pz_S s) := by
  obtain ⟨k, rfl⟩ : ∃ k, s = k + 1 := ⟨s - 1, by omega⟩
  rw [pv_m, if_pos ⟨h1, h2⟩]; omega
theorem pv_m_at {L : Nat → Nat → Bool} {f c : Nat → Int} {i j : Nat} : ∀ {k : Nat}, pv_m L f c i j k = f i ∨ pv_m L f c i j k = c j ∨ ∃ S : Nat → Bool, S j = false ∧ mq_g L S i = true ∧ pv_m L f c i j k = mq_c f (mq_g L S) - mq_c c S
  | 0 => by unfold pv_m; omega
  | k + 1 => by
    have ih := @pv_m_at L f c i j k
    rw [pv_m]
    split
    · rename_i h
      by_cases h3 : pv_m L f c i j k ≤ mq_c f (mq_g L (pz_S (k + 1))) - mq_c c (pz_S (k + 1))
      · rw [Int.min_eq_left h3]; exact ih
      · rw [Int.min_eq_right (by omega)]; exact Or.inr (Or.inr ⟨_, h.1, h.2, rfl⟩)
    · exact ih
theorem pz_bm {x y : Int} {s t : Bool} (h : x = 0 ∨ s = t) : (bif s then x else 0) = (bif t then x else 0) := by
  rcases h with rfl | rfl
  · cases s <;> cases t <;> rfl
  · rfl
theorem mq_c_congr {f : Nat → Int} {S T : Nat → Bool} (h : ∀ a, a < 3 → f a = 0 ∨ S a = T a) : mq_c f S = mq_c f T := by
  unfold mq_c
  rw [pz_bm (y := 0) (h 0 (by omega)), pz_bm (y := 0) (h 1 (by omega)), pz_bm (y := 0) (h 2 (by omega))]
theorem mq_g_congr {L : Nat → Nat → Bool} {S T : Nat → Bool} {i : Nat} (h : ∀ a, a < 3 → L i a = false ∨ S a = T a) : mq_g L S i = mq_g L T i := by
  unfold mq_g
  have e : ∀ a, a < 3 → (S a && L i a) = (T a && L i a) := fun a ha => by
    rcases h a ha with q | q <;> rw [q] <;> simp
  rw [e 0 (by omega), e 1 (by omega), e 2 (by omega)]
theorem mq_g_congrL {L K : Nat → Nat → Bool} {S : Nat → Bool} {i : Nat} (h : ∀ a, a < 3 → L i a = K i a) : mq_g L S i = mq_g K S i := by
  unfold mq_g
  rw [h 0 (by omega), h 1 (by omega), h 2 (by omega)]
theorem pv_m_M {ng : Nat} {L : Nat → Nat → Bool} {f c : Nat → Int} {i j : Nat} (hg : ng ≤ 3) (hc : ∀ j, ng ≤ j → c j = 0) (hL : ∀ i j, ng ≤ j → L i j = false) : mq_M L f c i j (pv_m (mq_rm L i j) f c i j (2 ^ ng - 1)) := by
  refine ⟨pv_m_le.1, pv_m_le.2, fun S h1 h2 => ?_, pv_m_at⟩
  have hbit : ∀ b, b < 3 → pz_S (pd_set S ng) b = (decide (b < ng) && S b) := fun b hb => pd_set_bit hg hb
  have hlt := pd_set_lt (P := S) hg
  have hg2 : ∀ a, mq_g (mq_rm L i j) (pz_S (pd_set S ng)) a = mq_g (mq_rm L i j) S a := fun a => mq_g_congr (fun b hb => by
    by_cases h : b < ng
    · exact Or.inr (by rw [hbit b hb]; simp [h])
    · refine Or.inl ?_
      cases q : mq_rm L i j a b
      · rfl
      · have := mq_rm_s q; rw [hL a b (by omega)] at this; cases this)
  have hc2 : mq_c c (pz_S (pd_set S ng)) = mq_c c S := mq_c_congr (fun b hb => by
    by_cases h : b < ng
    · exact Or.inr (by rw [hbit b hb]; simp [h])
    · exact Or.inl (hc b (by omega)))
  have hs0 : 0 < pd_set S ng := by
    rcases Nat.eq_zero_or_pos (pd_set S ng) with h | h
    · rw [← hg2, h] at h2
      obtain ⟨b, hb, h3, -⟩ := mq_g_ex h2
      simp [pz_S] at h3
    · exact h
  have h3 := @pv_m_in (mq_rm L i j) f c i j (pd_set S ng) hs0 (by
    by_cases hj : j < 3
    · rw [hbit j hj, h1]; simp
    · unfold pz_S
      exact Nat.testBit_lt_two_pow (Nat.lt_of_lt_of_le hlt (Nat.pow_le_pow_right (by omega) (by omega)))) (by rw [hg2]; exact h2)
  have h4 := @pv_m_mono (mq_rm L i j) f c i j (pd_set S ng) (2 ^ ng - 1) (by omega)
  rw [hc2, mq_c_eq hg2] at h3
  omega
theorem pv_min_mul {t a b : Int} (ht : 0 ≤ t) : min (t * a) (t * b) = t * min a b := by
  by_cases h : a ≤ b
  · rw [Int.min_eq_left h, Int.min_eq_left (Int.mul_le_mul_of_nonneg_left h ht)]
  · rw [Int.min_eq_right (show b ≤ a by omega), Int.min_eq_right (Int.mul_le_mul_of_nonneg_left (show b ≤ a by omega) ht)]
theorem pv_m_mul {t : Int} (ht : 0 ≤ t) {L : Nat → Nat → Bool} {f c : Nat → Int} {i j : Nat} : ∀ {k : Nat}, pv_m L (fun a => t * f a) (fun a => t * c a) i j k = t * pv_m L f c i j k
  | 0 => by unfold pv_m; exact pv_min_mul ht
  | k + 1 => by
    rw [pv_m, pv_m, @pv_m_mul t ht L f c i j k, mq_ck, mq_ck, ← Int.mul_sub, pv_min_mul ht]
    split <;> rfl
/-- the division: likings left, money left, costs left, shares, when the first k cells are done -/
def pv_s (ng : Nat) (L : Nat → Nat → Bool) (f c : Nat → Int) : Nat → ((Nat → Nat → Bool) × (Nat → Int) × (Nat → Int) × (Nat → Int))
  | 0 => (L, f, c, fun _ => 0)
  | k + 1 => if (pv_s ng L f c k).1 (k / 3) (k % 3) = true then
      (mq_rm (pv_s ng L f c k).1 (k / 3) (k % 3),
       mq_up (pv_s ng L f c k).2.1 (k / 3) (pv_m (mq_rm (pv_s ng L f c k).1 (k / 3) (k % 3)) (pv_s ng L f c k).2.1 (pv_s ng L f c k).2.2.1 (k / 3) (k % 3) (2 ^ ng - 1)),
       mq_up (pv_s ng L f c k).2.2.1 (k % 3) (pv_m (mq_rm (pv_s ng L f c k).1 (k / 3) (k % 3)) (pv_s ng L f c k).2.1 (pv_s ng L f c k).2.2.1 (k / 3) (k % 3) (2 ^ ng - 1)),
       fun a => if a = k then pv_m (mq_rm (pv_s ng L f c k).1 (k / 3) (k % 3)) (pv_s ng L f c k).2.1 (pv_s ng L f c k).2.2.1 (k / 3) (k % 3) (2 ^ ng - 1) else (pv_s ng L f c k).2.2.2 a)
    else pv_s ng L f c k
theorem pv_s_mul {t : Int} (ht : 0 ≤ t) {ng : Nat} {L : Nat → Nat → Bool} {f c : Nat → Int} : ∀ {k : Nat}, pv_s ng L (fun a => t * f a) (fun a => t * c a) k = ((pv_s ng L f c k).1, (fun a => t * (pv_s ng L f c k).2.1 a), (fun a => t * (pv_s ng L f c k).2.2.1 a), (fun a => t * (pv_s ng L f c k).2.2.2 a))
  | 0 => by simp [pv_s]
  | k + 1 => by
    rw [pv_s, @pv_s_mul t ht ng L f c k, pv_s]
    by_cases h : (pv_s ng L f c k).1 (k / 3) (k % 3) = true
    · simp only [h, if_true, pv_m_mul ht]
      refine Prod.ext rfl (Prod.ext ?_ (Prod.ext ?_ ?_)) <;> funext a <;> simp only [mq_up] <;> split <;> simp [Int.mul_sub]
    · simp only [if_neg h]
def pv_I (nb ng : Nat) (L : Nat → Nat → Bool) (B : Int) (z : (Nat → Nat → Bool) × (Nat → Int) × (Nat → Int) × (Nat → Int)) : Prop :=
  mq_H z.1 z.2.1 z.2.2.1 ∧ (∀ a, a < 3 → 0 ≤ z.2.1 a ∧ z.2.1 a ≤ B) ∧ (∀ a, a < 3 → 0 ≤ z.2.2.1 a ∧ z.2.2.1 a ≤ B) ∧ (∀ a b, z.1 a b = true → L a b = true) ∧ (∀ a, nb ≤ a → z.2.1 a = 0) ∧ (∀ b, ng ≤ b → z.2.2.1 b = 0) ∧ (∀ a, 0 ≤ z.2.2.2 a ∧ z.2.2.2 a ≤ B)
theorem pv_s_I {nb ng : Nat} {L : Nat → Nat → Bool} {B : Int} {f c : Nat → Int} (hnb : nb ≤ 3) (hg : ng ≤ 3) (hLb : ∀ i j, nb ≤ i → L i j = false) (hLg : ∀ i j, ng ≤ j → L i j = false) (h0 : pv_I nb ng L B (L, f, c, fun _ => 0)) : ∀ {k : Nat}, k ≤ 9 → pv_I nb ng L B (pv_s ng L f c k)
  | 0, _ => h0
  | k + 1, hk => by
    have ih := @pv_s_I nb ng L B f c hnb hg hLb hLg h0 k (by omega)
    rw [pv_s]
    generalize pv_s ng L f c k = z at ih ⊢
    obtain ⟨iH, ifb, icb, iL, if0, ic0, ix⟩ := ih
    by_cases h : z.1 (k / 3) (k % 3) = true
    · rw [if_pos h]
      have hLt := iL _ _ h
      have hi : k / 3 < nb := by
        rcases Nat.lt_or_ge (k / 3) nb with q | q
        · exact q
        · rw [hLb _ _ q] at hLt; cases hLt
      have hj : k % 3 < ng := by
        rcases Nat.lt_or_ge (k % 3) ng with q | q
        · exact q
        · rw [hLg _ _ q] at hLt; cases hLt
      have hM : mq_M z.1 z.2.1 z.2.2.1 (k / 3) (k % 3) (pv_m (mq_rm z.1 (k / 3) (k % 3)) z.2.1 z.2.2.1 (k / 3) (k % 3) (2 ^ ng - 1)) := pv_m_M hg ic0 (fun a b hb => by
        cases q : z.1 a b
        · rfl
        · have := iL a b q; rw [hLg a b hb] at this; cases this)
      generalize pv_m (mq_rm z.1 (k / 3) (k % 3)) z.2.1 z.2.2.1 (k / 3) (k % 3) (2 ^ ng - 1) = x at hM ⊢
      obtain ⟨ox, oH, of, oc⟩ := mq_M_ok (fun a ha => (ifb a ha).1) (fun a ha => (icb a ha).1) iH (by omega) (by omega) h hM
      refine ⟨oH, fun a ha => ⟨of a ha, ?_⟩, fun a ha => ⟨oc a ha, ?_⟩, fun a b q => iL a b (mq_rm_s q), fun a ha => ?_, fun b hb => ?_, fun a => ?_⟩
      · have := ifb a ha; simp only [mq_up]; split <;> omega
      · have := icb a ha; simp only [mq_up]; split <;> omega
      · simp only [mq_up]; rw [if_neg (by omega)]; exact if0 a ha
      · simp only [mq_up]; rw [if_neg (by omega)]; exact ic0 b hb
      · show 0 ≤ (if a = k then x else z.2.2.2 a) ∧ (if a = k then x else z.2.2.2 a) ≤ B
        have h1 := hM.1
        have h2 := ifb (k / 3) (by omega)
        have h3 := ix a
        split <;> omega
    · rw [if_neg h]; exact ⟨iH, ifb, icb, iL, if0, ic0, ix⟩
/-! Pure part 13: Demand's spendMost and divideInto. -/
theorem pz_scG {f : Nat → Int} {S : Nat → Bool} {n : Nat} (hn : n ≤ 3) (h : ∀ j, n ≤ j → f j = 0) : pz_s (fun j => bif S j then f j else 0) n = mq_c f S := by
  rw [pz_s3 hn (fun j h1 h2 => by rw [h j h1]; cases S j <;> rfl)]
  rfl
theorem pz_subb : ∀ l, l < 8 → ∀ j, j < 3 → pz_S l j = true → (nI l - (1 <<< (nI j &&& 31)) = nI (l - 2 ^ j)) := by decide +kernel
theorem pz_subS : ∀ l, l < 8 → ∀ j, j < 3 → pz_S l j = true → l - 2 ^ j < 8 ∧ ∀ b, b < 3 → pz_S (l - 2 ^ j) b = (pz_S l b && !decide (b = j)) := by decide +kernel
theorem pz_c_b {f : Nat → Int} {S : Nat → Bool} {B : Int} (h : ∀ a, a < 3 → 0 ≤ f a ∧ f a ≤ B) : 0 ≤ mq_c f S ∧ mq_c f S ≤ 3 * B := by
  have h0 := h 0 (by omega); have h1 := h 1 (by omega); have h2 := h 2 (by omega)
  unfold mq_c
  cases S 0 <;> cases S 1 <;> cases S 2 <;> simp only [cond_true, cond_false] <;> omega
theorem pv_m_b {L : Nat → Nat → Bool} {f c : Nat → Int} {i j : Nat} {B : Int} (hf : ∀ a, a < 3 → 0 ≤ f a ∧ f a ≤ B) (hc : ∀ a, a < 3 → 0 ≤ c a ∧ c a ≤ B) (hi : i < 3) (hj : j < 3) {k : Nat} : -(3 * B) ≤ pv_m L f c i j k ∧ pv_m L f c i j k ≤ 3 * B := by
  have h1 := @pv_m_le L f c i j k
  have h2 := hf i hi
  have h3 := hc j hj
  refine ⟨?_, by omega⟩
  rcases @pv_m_at L f c i j k with h | h | ⟨S, -, -, h⟩
  · omega
  · omega
  · have q1 := @pz_c_b f (mq_g L S) B hf
    have q2 := @pz_c_b c S B hc
    omega
def pd_Rel (nb : Nat) (L : Nat → Nat → Bool) (dli : Nat → Int32) (l : Nat → Nat) : Prop := ∀ a, a < nb → dli a = nI (l a) ∧ l a < 8 ∧ ∀ b, b < 3 → pz_S (l a) b = L a b
theorem pd_Rel_rm {nb i j : Nat} {L : Nat → Nat → Bool} {dli : Nat → Int32} {l : Nat → Nat} (h : pd_Rel nb L dli l) (hi : i < nb) (hj : j < 3) (hL : L i j = true) : pd_Rel nb (mq_rm L i j) (upd dli i (nI (l i - 2 ^ j))) (fun a => if a = i then l i - 2 ^ j else l a) := by
  intro a ha
  obtain ⟨h1, h2, h3⟩ := h a ha
  obtain ⟨-, h8, hS⟩ := h i hi
  have q := pz_subS (l i) h8 j hj (by rw [hS j hj]; exact hL)
  by_cases e : a = i
  · subst e
    refine ⟨by simp [upd], by simpa using q.1, fun b hb => ?_⟩
    simp only [if_true]
    rw [q.2 b hb, hS b hb]
    simp [mq_rm]
  · refine ⟨by simp [upd, e, h1], by simp [e, h2], fun b hb => ?_⟩
    simp only [if_neg e]
    rw [h3 b hb, mq_rm_o e]
theorem pd_spendMost {nb ng i j : Nat} {dun : Int64} {dco dfu : Nat → Int64} {dli : Nat → Int32} {c f : Nat → Int} {l : Nat → Nat} {L : Nat → Nat → Bool} (hb : nb ≤ 3) (hg : ng ≤ 3) (hc : ∀ j, j < ng → dco j = pz (c j)) (hf : ∀ i, i < nb → dfu i = pz (f i)) (hl : pd_Rel nb L dli l)
    (hfb : ∀ a, a < 3 → 0 ≤ f a ∧ f a ≤ 1000000000000000) (hcb : ∀ a, a < 3 → 0 ≤ c a ∧ c a ≤ 1000000000000000) (hf0 : ∀ a, nb ≤ a → f a = 0) (hc0 : ∀ a, ng ≤ a → c a = 0) (hi : i < nb) (hj : j < ng) (hL : L i j = true) :
    f_D_spendMost (nI nb) (nI ng) dun dco dfu dli (nI i) (nI j) = some (pz (pv_m (mq_rm L i j) f c i j (2 ^ ng - 1)), vp_updL dco j (pz (c j - pv_m (mq_rm L i j) f c i j (2 ^ ng - 1))), vp_updL dfu i (pz (f i - pv_m (mq_rm L i j) f c i j (2 ^ ng - 1))), upd dli i (nI (l i - 2 ^ j))) := by
  have hp := pz_p2 ng hg
  have hp0 : 0 < 2 ^ ng := Nat.pow_pos (by omega)
  obtain ⟨q1, q2, q3⟩ := hl i hi
  have hrel := pd_Rel_rm hl hi (show j < 3 by omega) hL
  have es : dli i - (1 <<< (nI j &&& 31)) = nI (l i - 2 ^ j) := by rw [q1]; exact pz_subb (l i) q2 j (by omega) (by rw [q3 j (by omega)]; exact hL)
  have hRm : ∀ k, pz_R (pv_m (mq_rm L i j) f c i j k) := fun k => by
    have := @pv_m_b (mq_rm L i j) f c i j _ hfb hcb (by omega) (by omega) k
    constructor <;> omega
  have e1 : f_J_min_JJJ (dfu i) (dco j) = some (pz (pv_m (mq_rm L i j) f c i j 0)) := by
    rw [hf i hi, hc j hj]
    have h1 := hfb i (by omega); have h2 := hcb j (by omega)
    exact pv_minJ (by constructor <;> omega) (by constructor <;> omega)
  have e2 : gq_it 1000000 (fb_D_spendMost_31 (nI nb) (nI ng) dun dco dfu dli (nI i) (nI j)) (nI 1, pz (pv_m (mq_rm L i j) f c i j (1 - 1))) = some (pz (pv_m (mq_rm L i j) f c i j (2 ^ ng - 1))) := by
    refine pz_for (fun k => (nI k, pz (pv_m (mq_rm L i j) f c i j (k - 1)))) 1 (2 ^ ng) (by omega) (by omega) (fun k h1 hk => ?_) ?_
    · have k8 : k < 8 := by omega
      obtain ⟨k', rfl⟩ : ∃ k', k = k' + 1 := ⟨k - 1, by omega⟩
      obtain ⟨r1, r2, r3⟩ := hrel i hi
      simp only [fb_D_spendMost_31, pz_sh ng hg, if_neg (nI_ge hk (by omega)), pz_has' (show k' + 1 < 512 by omega) (show j < 9 by omega), Option.bind_some, pz_g (show i < 3 by omega), pz_c (n := i) (by omega), es, nI_1]
      show _ = some (Sum.inl (nI (k' + 1 + 1), pz (pv_m (mq_rm L i j) f c i j (k' + 1))))
      rw [show k' + 1 - 1 = k' from rfl]
      have eg := pz_and0 _ r2 (k' + 1) k8
      rw [show mq_g (fun _ => pz_S ((fun a => if a = i then l i - 2 ^ j else l a) i)) (pz_S (k' + 1)) 0 = mq_g (mq_rm L i j) (pz_S (k' + 1)) i from mq_g_congrL (L := fun _ => pz_S ((fun a => if a = i then l i - 2 ^ j else l a) i)) (K := fun _ => mq_rm L i j i) (i := 0) r3, ← r1] at eg
      rw [pv_m]
      cases hS : pz_S (k' + 1) j
      · simp only [Bool.false_eq_true, if_false, if_true]
        cases hG : mq_g (mq_rm L i j) (pz_S (k' + 1)) i
        · rw [if_pos (eg.mpr hG), if_neg (by simp)]
        · rw [if_neg (fun q => by rw [eg.mp q] at hG; cases hG), if_pos (by simp)]
          rw [pd_fundsFor hb k8 hf (fun a ha => (hrel a ha).1) (fun a ha => (hrel a ha).2.1), pd_costOf hg k8 hc, Option.bind_some, Option.bind_some, pz_scG hb hf0, pz_scG hg hc0]
          have em : mq_c f (mq_g (fun a => pz_S (if a = i then l i - 2 ^ j else l a)) (pz_S (k' + 1))) = mq_c f (mq_g (mq_rm L i j) (pz_S (k' + 1))) := mq_c_congr (fun a ha => by
            by_cases ha' : a < nb
            · exact Or.inr (mq_g_congrL (fun b hb' => (hrel a ha').2.2 b hb'))
            · exact Or.inl (hf0 a (by omega)))
          rw [em, pz_sub]
          have b1 := @pz_c_b f (mq_g (mq_rm L i j) (pz_S (k' + 1))) _ hfb
          have b2 := @pz_c_b c (pz_S (k' + 1)) _ hcb
          rw [pv_minJ (hRm k') (by constructor <;> omega), Option.bind_some]
      · simp
    · simp only [fb_D_spendMost_31, pz_sh ng hg, if_pos (nI_le (Nat.le_refl (2 ^ ng)) (by omega))]
  unfold f_D_spendMost
  simp only [pz_g (show i < 3 by omega), pz_g (show j < 3 by omega), pz_c (n := i) (by omega), pz_c (n := j) (by omega), e1, Option.bind_some]
  rw [show (1 : Int32) = nI 1 from rfl] at *
  rw [show pv_m (mq_rm L i j) f c i j 0 = pv_m (mq_rm L i j) f c i j (1 - 1) from rfl, e2, Option.bind_some, es, hf i hi, hc j hj, pz_sub, pz_sub]
/-- Demand's state after k cells -/
def pd_D (nb ng : Nat) (x : Nat → Int) (z : (Nat → Nat → Bool) × (Nat → Int) × (Nat → Int) × (Nat → Int)) (k : Nat) (dco dfu : Nat → Int64) (dli : Nat → Int32) (hsh : Nat → Int64) : Prop :=
  (∀ j, j < ng → dco j = pz (z.2.2.1 j)) ∧ (∀ i, i < nb → dfu i = pz (z.2.1 i)) ∧ (∃ l, pd_Rel nb z.1 dli l) ∧ (∀ a b, a < nb → b < ng → 3 * a + b < k → hsh (3 * a + b) = pz (z.2.2.2 (3 * a + b)))
theorem pv_s_x {ng : Nat} {L : Nat → Nat → Bool} {f c : Nat → Int} {k a : Nat} (h : k ≤ a) : (pv_s ng L f c k).2.2.2 a = 0 := by
  induction k with
  | zero => rfl
  | succ k ih =>
    rw [pv_s]; split
    · simp only; rw [if_neg (by omega)]; exact ih (by omega)
    · exact ih (by omega)
theorem pd_divideInto {nb ng : Nat} {dun : Int64} {dco dfu : Nat → Int64} {dli : Nat → Int32} {hsh : Nat → Int64} {c f : Nat → Int} {l : Nat → Nat} {L : Nat → Nat → Bool} (hb : nb ≤ 3) (hg : ng ≤ 3) (hc : ∀ j, j < ng → dco j = pz (c j)) (hf : ∀ i, i < nb → dfu i = pz (f i)) (hl : pd_Rel nb L dli l)
    (hLb : ∀ i j, nb ≤ i → L i j = false) (hLg : ∀ i j, ng ≤ j → L i j = false) (hI : pv_I nb ng L 1000000000000000 (L, f, c, fun _ => 0)) :
    ∃ r, f_D_divideInto (nI nb) (nI ng) dun dco dfu dli hsh = some r ∧ ∀ a b, a < nb → b < ng → r.2.2.2 (3 * a + b) = pz ((pv_s ng L f c 9).2.2.2 (3 * a + b)) := by
  have hIk : ∀ k, k ≤ 9 → pv_I nb ng L 1000000000000000 (pv_s ng L f c k) := fun k hk => pv_s_I hb hg hLb hLg hI hk
  have hskip : ∀ k, k < 9 → (nb ≤ k / 3 ∨ ng ≤ k % 3) → pv_s ng L f c (k + 1) = pv_s ng L f c k := fun k hk h => by
    rw [pv_s, if_neg]
    intro q
    have := (hIk k (by omega)).2.2.2.1 _ _ q
    rcases h with h | h
    · rw [hLb _ _ h] at this; cases this
    · rw [hLg _ _ h] at this; cases this
  have hskipg : ∀ i, i < nb → ∀ d, ng + d ≤ 3 → pv_s ng L f c (3 * i + (ng + d)) = pv_s ng L f c (3 * i + ng) := fun i hi d => by
    induction d with
    | zero => intro _; rfl
    | succ d ih =>
      intro hd
      rw [← ih (by omega)]
      exact hskip (3 * i + (ng + d)) (by omega) (Or.inr (by omega))
  have hskipb : ∀ d, 3 * nb + d ≤ 9 → pv_s ng L f c (3 * nb + d) = pv_s ng L f c (3 * nb) := fun d => by
    induction d with
    | zero => intro _; rfl
    | succ d ih =>
      intro hd
      rw [← ih (by omega)]
      exact hskip (3 * nb + d) (by omega) (Or.inl (by omega))
  have main : ∃ r, gq_it 1000000 (fb_D_divideInto_2 (nI nb) (nI ng) dun) (0, dco, dfu, dli, hsh) = some r ∧ pd_D nb ng f (pv_s ng L f c (3 * nb)) (3 * nb) r.1 r.2.1 r.2.2.1 r.2.2.2 := by
    refine pz_invM (fun i z => z.1 = nI i ∧ pd_D nb ng f (pv_s ng L f c (3 * i)) (3 * i) z.2.1 z.2.2.1 z.2.2.2.1 z.2.2.2.2) 0 nb (by omega) (by omega) ⟨rfl, hc, hf, ⟨l, hl⟩, fun a b _ _ h => by omega⟩ (fun i z hi hz => ?_) (fun z hz => ?_)
    · obtain ⟨z1, z2⟩ := hz
      have inner : ∃ r, gq_it 1000000 (fb_D_divideInto_12 (nI nb) (nI ng) dun z) (0, z.2.1, z.2.2.1, z.2.2.2.1, z.2.2.2.2) = some r ∧ pd_D nb ng f (pv_s ng L f c (3 * i + ng)) (3 * i + ng) r.1 r.2.1 r.2.2.1 r.2.2.2 := by
        refine pz_invM (fun j y => y.1 = nI j ∧ pd_D nb ng f (pv_s ng L f c (3 * i + j)) (3 * i + j) y.2.1 y.2.2.1 y.2.2.2.1 y.2.2.2.2) 0 ng (by omega) (by omega) ⟨rfl, z2⟩ (fun j y hj hy => ?_) (fun y hy => ?_)
        · obtain ⟨y1, yc, yf, ⟨l', yl⟩, yx⟩ := hy
          have hkI := hIk (3 * i + j) (by omega)
          obtain ⟨l1, l2, l3⟩ := yl i hi
          have d1 : (3 * i + j) / 3 = i := by omega
          have d2 : (3 * i + j) % 3 = j := by omega
          simp only [fb_D_divideInto_12, y1, z1, if_neg (pz_ge hj hg), pd_cell, Option.bind_some, pz_g (show i < 3 by omega), pz_c (n := i) (by omega), l1, pz_has' (show l' i < 512 by omega) (show j < 9 by omega), l3 j (by omega), pz_g (show 3 * i + j < 9 by omega), pz_c (n := 3 * i + j) (by omega)]
          rw [show 3 * i + (j + 1) = 3 * i + j + 1 by omega, pv_s, d1, d2]
          obtain ⟨kH, kf, kc, kL, kf0, kc0, kx⟩ := hkI
          have hx0 := @pv_s_x ng L f c (3 * i + j) (3 * i + j) (Nat.le_refl _)
          generalize pv_s ng L f c (3 * i + j) = w at *
          by_cases hw : w.1 i j = true
          · rw [if_pos hw, if_pos hw, if_neg (by decide), pd_spendMost hb hg yc yf yl kf kc kf0 kc0 hi hj hw, Option.bind_some]
            refine ⟨_, rfl, nI_1 j, ?_, ?_, ⟨_, pd_Rel_rm yl hi (by omega) hw⟩, ?_⟩
            · intro b hb'
              show vp_updL y.2.1 j _ b = pz (mq_up w.2.2.1 j _ b)
              unfold vp_updL mq_up
              by_cases e : b = j
              · subst e; simp
              · simp [e, yc b hb']
            · intro a ha
              show vp_updL y.2.2.1 i _ a = pz (mq_up w.2.1 i _ a)
              unfold vp_updL mq_up
              by_cases e : a = i
              · subst e; simp
              · simp [e, yf a ha]
            · intro a b ha hb' hlt
              show vp_updL y.2.2.2.2 (3 * i + j) _ (3 * a + b) = pz (if 3 * a + b = 3 * i + j then _ else w.2.2.2 (3 * a + b))
              unfold vp_updL
              by_cases e : 3 * a + b = 3 * i + j
              · simp [e]
              · rw [if_neg e, if_neg e]; exact yx a b ha hb' (by omega)
          · rw [if_neg hw, if_neg hw, if_pos rfl]
            refine ⟨_, rfl, nI_1 j, yc, yf, ⟨l', yl⟩, ?_⟩
            intro a b ha hb' hlt
            show vp_updL y.2.2.2.2 (3 * i + j) 0 (3 * a + b) = pz (w.2.2.2 (3 * a + b))
            unfold vp_updL
            by_cases e : 3 * a + b = 3 * i + j
            · rw [if_pos e, e, hx0]; rfl
            · rw [if_neg e]; exact yx a b ha hb' (by omega)
        · obtain ⟨y1, y2⟩ := hy
          simp only [fb_D_divideInto_12, y1, if_pos (pz_le' (Nat.le_refl ng) hg)]
          exact ⟨_, rfl, y2⟩
      obtain ⟨r, r1, r2⟩ := inner
      simp only [fb_D_divideInto_2, z1, if_neg (pz_ge hi hb), r1, Option.bind_some, nI_1]
      refine ⟨_, rfl, rfl, ?_⟩
      have e := hskipg i hi (3 - ng) (by omega)
      rw [show 3 * i + (ng + (3 - ng)) = 3 * (i + 1) by omega] at e
      rw [e]
      obtain ⟨r3, r4, r5, r6⟩ := r2
      refine ⟨r3, r4, r5, fun a b ha hb' hlt => ?_⟩
      by_cases q : 3 * a + b < 3 * i + ng
      · exact r6 a b ha hb' q
      · exfalso; omega
    · obtain ⟨z1, z2⟩ := hz
      simp only [fb_D_divideInto_2, z1, if_pos (pz_le' (Nat.le_refl nb) hb)]
      exact ⟨_, rfl, z2⟩
  obtain ⟨r, r1, r2⟩ := main
  unfold f_D_divideInto
  rw [r1, Option.bind_some]
  refine ⟨_, rfl, fun a b ha hb' => ?_⟩
  have e := hskipb (9 - 3 * nb) (by omega)
  rw [show 3 * nb + (9 - 3 * nb) = 9 by omega] at e
  rw [e]
  exact r2.2.2.2 a b ha hb' (by omega)
