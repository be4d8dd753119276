/-! Pure part 3: the most that a buyer can spend on a good: it is not below 0, and what is left can still be divided. -/
def mq_up (f : Nat → Int) (i : Nat) (x : Int) : Nat → Int := fun a => if a = i then f a - x else f a
theorem mq_c_up {f : Nat → Int} {S : Nat → Bool} {i : Nat} {x : Int} (hi : i < 3) : mq_c (mq_up f i x) S = mq_c f S - (bif S i then x else 0) := by
  unfold mq_c mq_up
  rcases (show i = 0 ∨ i = 1 ∨ i = 2 by omega) with rfl | rfl | rfl
  · simp; cases S 0 <;> simp <;> omega
  · simp; cases S 1 <;> simp <;> omega
  · simp; cases S 2 <;> simp <;> omega
theorem mq_s_up {f : Nat → Int} {i : Nat} {x : Int} (hi : i < 3) : mq_s (mq_up f i x) = mq_s f - x := by
  unfold mq_s mq_up
  rcases (show i = 0 ∨ i = 1 ∨ i = 2 by omega) with rfl | rfl | rfl <;> simp <;> omega
theorem mq_bm {x : Int} {s t : Bool} (hx : 0 ≤ x) (h : s = true → t = true) : (bif s then x else 0) ≤ (bif t then x else 0) := by
  cases s <;> cases t <;> first | (simp only [cond_true, cond_false]; omega) | exact absurd (h rfl) (by decide)
theorem mq_cm {f : Nat → Int} {S T : Nat → Bool} (hf : ∀ i, i < 3 → 0 ≤ f i) (h : ∀ a, a < 3 → S a = true → T a = true) : mq_c f S ≤ mq_c f T := by
  have a0 := mq_bm (hf 0 (by decide)) (h 0 (by decide))
  have a1 := mq_bm (hf 1 (by decide)) (h 1 (by decide))
  have a2 := mq_bm (hf 2 (by decide)) (h 2 (by decide))
  unfold mq_c
  omega
theorem mq_rm_g {L : Nat → Nat → Bool} {S : Nat → Bool} {i j : Nat} (hS : S j = false) : ∀ a, mq_g (mq_rm L i j) S a = mq_g L S a := fun a => by
  cases h : mq_g L S a with
  | false =>
    cases h' : mq_g (mq_rm L i j) S a with
    | false => rfl
    | true => rw [mq_g_mono h'] at h; cases h
  | true =>
    obtain ⟨b, hb, hs, hl⟩ := mq_g_ex h
    exact mq_g_in hb hs (mq_rm_t hl (fun q => by rw [q.2, hS] at hs; cases hs))
/-- x is the most that buyer i can spend on good j -/
def mq_M (L : Nat → Nat → Bool) (f c : Nat → Int) (i j : Nat) (x : Int) : Prop :=
  x ≤ f i ∧ x ≤ c j ∧ (∀ S : Nat → Bool, S j = false → mq_g (mq_rm L i j) S i = true → x ≤ mq_c f (mq_g (mq_rm L i j) S) - mq_c c S) ∧
  (x = f i ∨ x = c j ∨ ∃ S : Nat → Bool, S j = false ∧ mq_g (mq_rm L i j) S i = true ∧ x = mq_c f (mq_g (mq_rm L i j) S) - mq_c c S)
theorem mq_M_ok {L : Nat → Nat → Bool} {f c : Nat → Int} {i j : Nat} {x : Int} (hf : ∀ i, i < 3 → 0 ≤ f i) (hc : ∀ j, j < 3 → 0 ≤ c j) (hH : mq_H L f c) (hi : i < 3) (hj : j < 3) (hl : L i j = true) (hM : mq_M L f c i j x) :
    0 ≤ x ∧ mq_H (mq_rm L i j) (mq_up f i x) (mq_up c j x) ∧ (∀ a, a < 3 → 0 ≤ mq_up f i x a) ∧ (∀ a, a < 3 → 0 ≤ mq_up c j x a) := by
  obtain ⟨m1, m2, m3, m4⟩ := hM
  have h0 : 0 ≤ x := by
    rcases m4 with h | h | ⟨S, hS, -, h⟩
    · have := hf i hi; omega
    · have := hc j hj; omega
    · have q := hH S
      rw [mq_c_eq (mq_rm_g hS)] at h
      omega
  refine ⟨h0, ?_, ?_, ?_⟩
  · intro S
    rw [mq_c_up hj, mq_c_up hi]
    have hHS := hH S
    cases hSj : S j with
    | false =>
      simp only [cond_false]
      rw [mq_c_eq (mq_rm_g hSj), mq_rm_g hSj]
      cases hg : mq_g L S i with
      | false => simp only [cond_false]; omega
      | true =>
        have q := m3 S hSj (by rw [mq_rm_g hSj]; exact hg)
        rw [mq_c_eq (mq_rm_g hSj)] at q
        simp only [cond_true]; omega
    | true =>
      simp only [cond_true]
      have hgi : mq_g L S i = true := mq_g_in hj hSj hl
      cases hg : mq_g (mq_rm L i j) S i with
      | true =>
        have hgg : ∀ a, mq_g (mq_rm L i j) S a = mq_g L S a := fun a => by
          by_cases ha : a = i
          · subst ha; rw [hg, hgi]
          · exact mq_g_off ha
        rw [mq_c_eq hgg]
        simp only [cond_true]; omega
      | false =>
        simp only [cond_false]
        have hgo := mq_c_off (f := f) (S := mq_g (mq_rm L i j) S) (T := mq_g L S) hi (fun a ha => mq_g_off ha) hg hgi
        have hno : ∀ b, b < 3 → b ≠ j → S b = true → L i b = false := fun b hb hbj hsb => by
          cases hl : L i b with
          | false => rfl
          | true =>
            have := mq_g_in (L := mq_rm L i j) (i := i) hb hsb (mq_rm_t hl (fun q => hbj q.2))
            rw [hg] at this
            cases this
        rcases m4 with h | h | ⟨R, hR, hRi, h⟩
        · omega
        · -- the set without j
          have hHj := hH (fun b => S b && !decide (b = j))
          have q1 : mq_c c (fun b => S b && !decide (b = j)) = mq_c c S - c j := mq_c_off hj (fun a ha => by simp [ha]) (by simp) hSj
          have q2 : mq_c f (mq_g L (fun b => S b && !decide (b = j))) ≤ mq_c f (mq_g (mq_rm L i j) S) := mq_cm hf (fun a ha hga => by
            obtain ⟨b, hb, hs, hlb⟩ := mq_g_ex hga
            have hs' := (Bool.and_eq_true _ _ ▸ hs : S b = true ∧ (!decide (b = j)) = true)
            have hbj : b ≠ j := by simpa using hs'.2
            exact mq_g_in hb hs'.1 (mq_rm_t hlb (fun q => hbj q.2)))
          omega
        · have hRg : ∀ a, mq_g (mq_rm L i j) R a = mq_g L R a := mq_rm_g hR
          rw [mq_c_eq hRg] at h
          rw [hRg] at hRi
          have hU := hH (mq_Un S R)
          have hI := hH (mq_In S R)
          have hcc := mq_ui (c := c) (S := S) (T := R)
          have xi : mq_g L (mq_In S R) i = false := by
            cases h : mq_g L (mq_In S R) i with
            | false => rfl
            | true =>
              obtain ⟨b, hb, hs, hlb⟩ := mq_g_ex h
              have hs' := (Bool.and_eq_true _ _ ▸ hs : S b = true ∧ R b = true)
              by_cases hbj : b = j
              · subst hbj; rw [hR] at hs'; exact absurd hs'.2 (by decide)
              · have := hno b hb hbj hs'.1; rw [hlb] at this; cases this
          let e : Nat → Int := fun b => if b = i then f b else 0
          have he : ∀ b, e b = 0 ∨ (e b = f b ∧ mq_g L S b = true ∧ mq_g L R b = true ∧ mq_g L (mq_In S R) b = false) := fun b => by
            by_cases h : b = i
            · right; subst h; exact ⟨if_pos rfl, hgi, hRi, xi⟩
            · left; exact if_neg h
          have hsum : e 0 + e 1 + e 2 = f i := by
            rcases (show i = 0 ∨ i = 1 ∨ i = 2 by omega) with rfl | rfl | rfl <;> simp [e]
          have p0 := mq_pb (x := f 0) (hf 0 (by decide)) (mq_gU (L := L) (S := S) (T := R) (b := 0)) mq_gI (he 0)
          have p1 := mq_pb (x := f 1) (hf 1 (by decide)) (mq_gU (L := L) (S := S) (T := R) (b := 1)) mq_gI (he 1)
          have p2 := mq_pb (x := f 2) (hf 2 (by decide)) (mq_gU (L := L) (S := S) (T := R) (b := 2)) mq_gI (he 2)
          have hF : mq_c f (mq_g L (mq_Un S R)) + mq_c f (mq_g L (mq_In S R)) + f i ≤ mq_c f (mq_g L S) + mq_c f (mq_g L R) := by
            rw [← hsum]
            unfold mq_c
            omega
          omega
  · intro a ha
    unfold mq_up
    have := hf a ha
    by_cases h : a = i
    · subst h; rw [if_pos rfl]; omega
    · rw [if_neg h]; exact this
  · intro a ha
    unfold mq_up
    have := hc a ha
    by_cases h : a = j
    · subst h; rw [if_pos rfl]; omega
    · rw [if_neg h]; exact this
