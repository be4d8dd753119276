/-! Pure part 1: three goods, three buyers; a set too dear; fair prices are unique. No machine here. -/
def mq_s (f : Nat → Int) : Int := f 0 + f 1 + f 2
def mq_c (f : Nat → Int) (S : Nat → Bool) : Int := (bif S 0 then f 0 else 0) + (bif S 1 then f 1 else 0) + (bif S 2 then f 2 else 0)
/-- who likes one of the set S -/
def mq_g (L : Nat → Nat → Bool) (S : Nat → Bool) : Nat → Bool := fun i => (S 0 && L i 0) || (S 1 && L i 1) || (S 2 && L i 2)
/-- no set is too dear -/
def mq_H (L : Nat → Nat → Bool) (f c : Nat → Int) : Prop := ∀ S : Nat → Bool, mq_c c S ≤ mq_c f (mq_g L S)
theorem mq_g_ex {L : Nat → Nat → Bool} {S : Nat → Bool} {i : Nat} (h : mq_g L S i = true) : ∃ j, j < 3 ∧ S j = true ∧ L i j = true := by
  unfold mq_g at h
  simp only [Bool.or_eq_true, Bool.and_eq_true] at h
  rcases h with (h | h) | h
  · exact ⟨0, by decide, h⟩
  · exact ⟨1, by decide, h⟩
  · exact ⟨2, by decide, h⟩
theorem mq_g_in {L : Nat → Nat → Bool} {S : Nat → Bool} {i j : Nat} (hj : j < 3) (hs : S j = true) (hl : L i j = true) : mq_g L S i = true := by
  unfold mq_g
  simp only [Bool.or_eq_true, Bool.and_eq_true]
  rcases (show j = 0 ∨ j = 1 ∨ j = 2 by omega) with rfl | rfl | rfl
  · exact Or.inl (Or.inl ⟨hs, hl⟩)
  · exact Or.inl (Or.inr ⟨hs, hl⟩)
  · exact Or.inr ⟨hs, hl⟩
theorem mq_b1 {x : Int} {s t : Bool} (h : 0 ≤ x) (hd : ¬ (s = true ∧ t = true)) : (bif s then x else 0) + (bif t then x else 0) ≤ x := by
  cases s <;> cases t <;> first | (simp only [cond_true, cond_false]; omega) | exact absurd ⟨rfl, rfl⟩ hd
theorem mq_dj {f : Nat → Int} {S T : Nat → Bool} (h0 : ∀ i, i < 3 → 0 ≤ f i) (hd : ∀ i, i < 3 → ¬ (S i = true ∧ T i = true)) : mq_c f S + mq_c f T ≤ mq_s f := by
  have a0 := mq_b1 (h0 0 (by decide)) (hd 0 (by decide))
  have a1 := mq_b1 (h0 1 (by decide)) (hd 1 (by decide))
  have a2 := mq_b1 (h0 2 (by decide)) (hd 2 (by decide))
  unfold mq_c mq_s
  omega
theorem mq_b2 {x : Int} {s : Bool} : (bif s then x else 0) + (bif !s then x else 0) = x := by
  cases s <;> simp
theorem mq_co {f : Nat → Int} {S : Nat → Bool} : mq_c f S + mq_c f (fun j => !S j) = mq_s f := by
  have a0 := mq_b2 (x := f 0) (s := S 0)
  have a1 := mq_b2 (x := f 1) (s := S 1)
  have a2 := mq_b2 (x := f 2) (s := S 2)
  unfold mq_c mq_s
  dsimp only
  omega
theorem mq_b3 {k x : Int} {s : Bool} : (bif s then k * x else 0) = k * (bif s then x else 0) := by
  cases s <;> simp
theorem mq_ck {k : Int} {f : Nat → Int} {S : Nat → Bool} : mq_c (fun i => k * f i) S = k * mq_c f S := by
  unfold mq_c
  simp only [mq_b3, Int.mul_add]
theorem mq_b4 {x y : Int} {s : Bool} (h : s = true → x < y) : (bif s then x else 0) ≤ (bif s then y else 0) ∧ (s = true → (bif s then x else 0) < (bif s then y else 0)) := by
  cases s
  · exact ⟨Int.le_refl _, fun h => by cases h⟩
  · have := h rfl
    exact ⟨by simp only [cond_true]; omega, fun _ => by simpa only [cond_true] using this⟩
/-- who likes what at the prices c / U -/
def mq_L (nb ng : Nat) (v : Nat → Nat → Int) (c : Nat → Int) : Nat → Nat → Bool := fun i j => decide (i < nb ∧ j < ng ∧ 0 < v i j ∧ ∀ k, k < ng → v i k * c j ≤ v i j * c k)
theorem mq_L_iff {nb ng : Nat} {v : Nat → Nat → Int} {c : Nat → Int} {i j : Nat} : mq_L nb ng v c i j = true ↔ (i < nb ∧ j < ng ∧ 0 < v i j ∧ ∀ k, k < ng → v i k * c j ≤ v i j * c k) := by
  unfold mq_L
  exact decide_eq_true_iff
/-- fair prices c / U: above 0, no set too dear, together the money of all -/
def mq_F (nb ng : Nat) (v : Nat → Nat → Int) (m : Nat → Int) (U : Int) (c : Nat → Int) : Prop :=
  0 < U ∧ (∀ j, j < ng → 0 < c j) ∧ (∀ j, ng ≤ j → c j = 0) ∧ mq_H (mq_L nb ng v c) (fun i => U * m i) c ∧ mq_s c = U * mq_s m
theorem mq_no {a b pj pk qj qk U V : Int} (ha : 0 < a) (hb : 0 < b) (hU : 0 < U) (hV : 0 < V) (h1 : b * pj ≤ a * pk) (h2 : a * qk ≤ b * qj) (h3 : qj * U < pj * V) (h4 : pk * V ≤ qk * U) : False := by
  have e1 := Int.mul_lt_mul_of_pos_left h3 hb
  have e2 := Int.mul_le_mul_of_nonneg_right h1 (Int.le_of_lt hV)
  have e3 := Int.mul_le_mul_of_nonneg_left h4 (Int.le_of_lt ha)
  have e4 := Int.mul_le_mul_of_nonneg_right h2 (Int.le_of_lt hU)
  simp only [Int.mul_assoc] at e1 e2 e3 e4
  omega
theorem mq_le {nb ng : Nat} {v : Nat → Nat → Int} {m : Nat → Int} {U V : Int} {c d : Nat → Int} (hm : ∀ i, i < 3 → 0 ≤ m i) (h1 : mq_F nb ng v m U c) (h2 : mq_F nb ng v m V d) : ∀ j, j < 3 → c j * V ≤ d j * U := by
  obtain ⟨hU, -, -, hH1, -⟩ := h1
  obtain ⟨hV, -, -, hH2, hs2⟩ := h2
  let A : Nat → Bool := fun j => decide (d j * U < c j * V)
  have hAt : ∀ j, A j = true → d j * U < c j * V := fun j h => of_decide_eq_true h
  have hAf : ∀ j, (!A j) = true → c j * V ≤ d j * U := fun j h => by
    have h' : A j = false := by simpa using h
    exact Int.not_lt.mp (of_decide_eq_false h')
  have k1 := hH1 A
  have k2 := hH2 (fun j => !A j)
  rw [mq_ck] at k1 k2
  have kd := mq_dj (f := m) (S := mq_g (mq_L nb ng v c) A) (T := mq_g (mq_L nb ng v d) (fun j => !A j)) hm (fun i _ hb => by
    obtain ⟨j, -, hj, hl⟩ := mq_g_ex hb.1
    obtain ⟨k, -, hk, hl'⟩ := mq_g_ex hb.2
    obtain ⟨-, hjg, hvj, hbj⟩ := mq_L_iff.mp hl
    obtain ⟨-, hkg, hvk, hbk⟩ := mq_L_iff.mp hl'
    exact mq_no hvj hvk hU hV (hbj k hkg) (hbk j hjg) (hAt j hj) (hAf k hk))
  have kc := mq_co (f := d) (S := A)
  generalize hX : mq_c m (mq_g (mq_L nb ng v c) A) = X at k1 kd
  generalize hY : mq_c m (mq_g (mq_L nb ng v d) (fun j => !A j)) = Y at k2 kd
  -- d A ≥ V X
  have g1 : V * X ≤ mq_c d A := by
    have q1 : V * (X + Y) ≤ V * mq_s m := Int.mul_le_mul_of_nonneg_left kd (Int.le_of_lt hV)
    rw [Int.mul_add] at q1
    omega
  have g2 : mq_c c A * V ≤ mq_c d A * U := by
    have q1 := Int.mul_le_mul_of_nonneg_right k1 (Int.le_of_lt hV)
    have q2 := Int.mul_le_mul_of_nonneg_right g1 (Int.le_of_lt hU)
    have q3 : U * X * V = V * X * U := by rw [Int.mul_comm U X, Int.mul_comm V X, Int.mul_assoc, Int.mul_assoc, Int.mul_comm U V]
    omega
  have r : ∀ j : Nat, (bif A j then d j * U else 0) ≤ (bif A j then c j * V else 0) ∧ (A j = true → (bif A j then d j * U else 0) < (bif A j then c j * V else 0)) := fun j => mq_b4 (hAt j)
  have s1 : mq_c c A * V = mq_c (fun j => c j * V) A := by
    have := mq_ck (k := V) (f := c) (S := A)
    rw [Int.mul_comm, ← this]
    unfold mq_c
    simp only [Int.mul_comm V]
  have s2 : mq_c d A * U = mq_c (fun j => d j * U) A := by
    have := mq_ck (k := U) (f := d) (S := A)
    rw [Int.mul_comm, ← this]
    unfold mq_c
    simp only [Int.mul_comm U]
  rw [s1, s2] at g2
  unfold mq_c at g2
  dsimp only at g2
  have r0 := r 0
  have r1 := r 1
  have r2 := r 2
  intro j hj
  apply Int.not_lt.mp
  intro hlt
  have hAj : A j = true := decide_eq_true hlt
  rcases (show j = 0 ∨ j = 1 ∨ j = 2 by omega) with rfl | rfl | rfl
  · have := r0.2 hAj; omega
  · have := r1.2 hAj; omega
  · have := r2.2 hAj; omega
/-- fair prices are just one for each good -/
theorem mq_one {nb ng : Nat} {v : Nat → Nat → Int} {m : Nat → Int} {U V : Int} {c d : Nat → Int} (hm : ∀ i, i < 3 → 0 ≤ m i) (h1 : mq_F nb ng v m U c) (h2 : mq_F nb ng v m V d) : ∀ j, j < 3 → c j * V = d j * U :=
  fun j hj => Int.le_antisymm (mq_le hm h1 h2 j hj) (mq_le hm h2 h1 j hj)
