/-! Pure part 2: where no set is too dear and the sums agree, some ring-free part of the likings has the same property. -/
def mq_cnt (L : Nat → Nat → Bool) : Nat := (L 0 0).toNat + (L 0 1).toNat + (L 0 2).toNat + (L 1 0).toNat + (L 1 1).toNat + (L 1 2).toNat + (L 2 0).toNat + (L 2 1).toNat + (L 2 2).toNat
def mq_rm (L : Nat → Nat → Bool) (i j : Nat) : Nat → Nat → Bool := fun a b => L a b && !(decide (a = i ∧ b = j))
theorem mq_rm_t {L : Nat → Nat → Bool} {i j a b : Nat} (h : L a b = true) (hn : ¬ (a = i ∧ b = j)) : mq_rm L i j a b = true := by
  unfold mq_rm
  rw [h, decide_eq_false hn]
  rfl
theorem mq_rm_s {L : Nat → Nat → Bool} {i j a b : Nat} (h : mq_rm L i j a b = true) : L a b = true := by
  unfold mq_rm at h
  exact (Bool.and_eq_true _ _ ▸ h).1
theorem mq_rm_o {L : Nat → Nat → Bool} {i j a b : Nat} (h : a ≠ i) : mq_rm L i j a b = L a b := by
  unfold mq_rm
  rw [decide_eq_false (fun q => h q.1)]
  simp
theorem mq_rm_c {L : Nat → Nat → Bool} {i j : Nat} (hi : i < 3) (hj : j < 3) (h : L i j = true) : mq_cnt (mq_rm L i j) < mq_cnt L := by
  rcases (show i = 0 ∨ i = 1 ∨ i = 2 by omega) with rfl | rfl | rfl <;> rcases (show j = 0 ∨ j = 1 ∨ j = 2 by omega) with rfl | rfl | rfl <;>
    simp [mq_cnt, mq_rm, h] <;> omega
theorem mq_g_mono {L : Nat → Nat → Bool} {i j : Nat} {S : Nat → Bool} {a : Nat} (h : mq_g (mq_rm L i j) S a = true) : mq_g L S a = true := by
  obtain ⟨b, hb, hs, hl⟩ := mq_g_ex h
  exact mq_g_in hb hs (mq_rm_s hl)
theorem mq_g_off {L : Nat → Nat → Bool} {i j : Nat} {S : Nat → Bool} {a : Nat} (h : a ≠ i) : mq_g (mq_rm L i j) S a = mq_g L S a := by
  unfold mq_g
  simp only [mq_rm_o h]
theorem mq_c_off {f : Nat → Int} {S T : Nat → Bool} {i : Nat} (hi : i < 3) (h : ∀ a, a ≠ i → S a = T a) (hs : S i = false) (ht : T i = true) : mq_c f S = mq_c f T - f i := by
  unfold mq_c
  rcases (show i = 0 ∨ i = 1 ∨ i = 2 by omega) with rfl | rfl | rfl
  · rw [hs, ht, h 1 (by decide), h 2 (by decide)]; simp only [cond_true, cond_false]; omega
  · rw [hs, ht, h 0 (by decide), h 2 (by decide)]; simp only [cond_true, cond_false]; omega
  · rw [hs, ht, h 0 (by decide), h 1 (by decide)]; simp only [cond_true, cond_false]; omega
theorem mq_c_eq {f : Nat → Int} {S T : Nat → Bool} (h : ∀ a, S a = T a) : mq_c f S = mq_c f T := by
  unfold mq_c
  rw [h 0, h 1, h 2]
/-- an edge that can't go: a set that shows it -/
theorem mq_crit {L : Nat → Nat → Bool} {f c : Nat → Int} {i j : Nat} (hH : mq_H L f c) (hi : i < 3) (hj : j < 3) (hn : ¬ mq_H (mq_rm L i j) f c) :
    ∃ S : Nat → Bool, S j = true ∧ (∀ b, b < 3 → b ≠ j → S b = true → L i b = false) ∧ mq_c f (mq_g L S) - f i < mq_c c S := by
  obtain ⟨S, hS⟩ := Classical.not_forall.mp hn
  have h1 := hH S
  have hne : mq_g (mq_rm L i j) S i = false ∧ mq_g L S i = true := by
    cases hx : mq_g (mq_rm L i j) S i with
    | true => 
      exfalso
      have : mq_c f (mq_g (mq_rm L i j) S) = mq_c f (mq_g L S) := mq_c_eq (fun a => by
        by_cases ha : a = i
        · subst ha; rw [hx, mq_g_mono hx]
        · exact mq_g_off ha)
      omega
    | false =>
      cases hy : mq_g L S i with
      | true => exact ⟨rfl, rfl⟩
      | false =>
        exfalso
        have : mq_c f (mq_g (mq_rm L i j) S) = mq_c f (mq_g L S) := mq_c_eq (fun a => by
          by_cases ha : a = i
          · subst ha; rw [hx, hy]
          · exact mq_g_off ha)
        omega
  obtain ⟨hx, hy⟩ := hne
  have hno : ∀ b, b < 3 → b ≠ j → S b = true → L i b = false := fun b hb hbj hsb => by
    cases hl : L i b with
    | false => rfl
    | true =>
      have := mq_g_in (L := mq_rm L i j) (i := i) hb hsb (mq_rm_t hl (fun q => hbj q.2))
      rw [hx] at this
      cases this
  obtain ⟨b, hb, hsb, hlb⟩ := mq_g_ex hy
  have hbj : b = j := Classical.byContradiction fun hne => by
    have := hno b hb hne hsb
    rw [hlb] at this
    cases this
  subst hbj
  refine ⟨S, hsb, hno, ?_⟩
  have := mq_c_off (f := f) (S := mq_g (mq_rm L i b) S) (T := mq_g L S) hi (fun a ha => mq_g_off ha) hx hy
  omega
def mq_Un (S T : Nat → Bool) : Nat → Bool := fun b => S b || T b
def mq_In (S T : Nat → Bool) : Nat → Bool := fun b => S b && T b
theorem mq_ui1 {x : Int} {s t : Bool} : (bif s || t then x else 0) + (bif s && t then x else 0) = (bif s then x else 0) + (bif t then x else 0) := by
  cases s <;> cases t <;> simp
theorem mq_ui {c : Nat → Int} {S T : Nat → Bool} : mq_c c (mq_Un S T) + mq_c c (mq_In S T) = mq_c c S + mq_c c T := by
  have a0 := mq_ui1 (x := c 0) (s := S 0) (t := T 0)
  have a1 := mq_ui1 (x := c 1) (s := S 1) (t := T 1)
  have a2 := mq_ui1 (x := c 2) (s := S 2) (t := T 2)
  unfold mq_c mq_Un mq_In
  omega
theorem mq_gU {L : Nat → Nat → Bool} {S T : Nat → Bool} {b : Nat} : mq_g L (mq_Un S T) b = (mq_g L S b || mq_g L T b) := by
  unfold mq_g mq_Un
  cases S 0 <;> cases S 1 <;> cases S 2 <;> cases T 0 <;> cases T 1 <;> cases T 2 <;> cases L b 0 <;> cases L b 1 <;> cases L b 2 <;> rfl
theorem mq_gI {L : Nat → Nat → Bool} {S T : Nat → Bool} {b : Nat} (h : mq_g L (mq_In S T) b = true) : mq_g L S b = true ∧ mq_g L T b = true := by
  obtain ⟨a, ha, hs, hl⟩ := mq_g_ex h
  have hs' := (Bool.and_eq_true _ _ ▸ hs : S a = true ∧ T a = true)
  exact ⟨mq_g_in ha hs'.1 hl, mq_g_in ha hs'.2 hl⟩
/-- one buyer's share of the uncrossing: e is x where both sets reach him and their common part doesn't -/
theorem mq_pb {x e : Int} {s t u w : Bool} (hx : 0 ≤ x) (hu : u = (s || t)) (hw : w = true → s = true ∧ t = true) (he : e = 0 ∨ (e = x ∧ s = true ∧ t = true ∧ w = false)) :
    (bif u then x else 0) + (bif w then x else 0) + e ≤ (bif s then x else 0) + (bif t then x else 0) := by
  subst hu
  rcases he with rfl | ⟨rfl, rfl, rfl, rfl⟩
  · cases s <;> cases t <;> cases w <;> first | (simp only [Bool.or_true, Bool.or_false, Bool.true_or, Bool.false_or, cond_true, cond_false]; omega) | (exact absurd (hw rfl) (by simp))
  · simp
/-- two opposite edges of a ring of four can't both be needed -/
theorem mq_no4 {L : Nat → Nat → Bool} {f c : Nat → Int} (hf : ∀ i, i < 3 → 0 ≤ f i) (hH : mq_H L f c) {i k j n : Nat} (hi : i < 3) (hk : k < 3) (hj : j < 3) (hn : n < 3) (hik : i ≠ k) (hjn : j ≠ n)
    (e1 : L i j = true) (e2 : L i n = true) (e3 : L k j = true) (e4 : L k n = true) (c1 : ¬ mq_H (mq_rm L i j) f c) (c2 : ¬ mq_H (mq_rm L k n) f c) : False := by
  obtain ⟨S, s1, s2, s3⟩ := mq_crit hH hi hj c1
  obtain ⟨T, t1, t2, t3⟩ := mq_crit hH hk hn c2
  have s4 : S n = false := by
    cases h : S n with
    | false => rfl
    | true => have := s2 n hn (Ne.symm hjn) h; rw [e2] at this; cases this
  have t4 : T j = false := by
    cases h : T j with
    | false => rfl
    | true => have := t2 j hj hjn h; rw [e3] at this; cases this
  have hU := hH (mq_Un S T)
  have hI := hH (mq_In S T)
  have hc := mq_ui (c := c) (S := S) (T := T)
  have xi : mq_g L S i = true ∧ mq_g L T i = true ∧ mq_g L (mq_In S T) i = false := by
    refine ⟨mq_g_in hj s1 e1, mq_g_in hn t1 e2, ?_⟩
    cases h : mq_g L (mq_In S T) i with
    | false => rfl
    | true =>
      obtain ⟨b, hb, hs, hl⟩ := mq_g_ex h
      have hs' := (Bool.and_eq_true _ _ ▸ hs : S b = true ∧ T b = true)
      by_cases hbj : b = j
      · subst hbj; rw [t4] at hs'; exact absurd hs'.2 (by decide)
      · have := s2 b hb hbj hs'.1; rw [hl] at this; cases this
  have xk : mq_g L S k = true ∧ mq_g L T k = true ∧ mq_g L (mq_In S T) k = false := by
    refine ⟨mq_g_in hj s1 e3, mq_g_in hn t1 e4, ?_⟩
    cases h : mq_g L (mq_In S T) k with
    | false => rfl
    | true =>
      obtain ⟨b, hb, hs, hl⟩ := mq_g_ex h
      have hs' := (Bool.and_eq_true _ _ ▸ hs : S b = true ∧ T b = true)
      by_cases hbn : b = n
      · subst hbn; rw [s4] at hs'; exact absurd hs'.1 (by decide)
      · have := t2 b hb hbn hs'.2; rw [hl] at this; cases this
  let e : Nat → Int := fun b => if b = i ∨ b = k then f b else 0
  have he : ∀ b, e b = 0 ∨ (e b = f b ∧ mq_g L S b = true ∧ mq_g L T b = true ∧ mq_g L (mq_In S T) b = false) := fun b => by
    by_cases h : b = i ∨ b = k
    · right
      refine ⟨if_pos h, ?_⟩
      rcases h with rfl | rfl
      · exact xi
      · exact xk
    · left; exact if_neg h
  have hsum : e 0 + e 1 + e 2 = f i + f k := by
    rcases (show i = 0 ∨ i = 1 ∨ i = 2 by omega) with rfl | rfl | rfl <;> rcases (show k = 0 ∨ k = 1 ∨ k = 2 by omega) with rfl | rfl | rfl <;>
      first | exact absurd rfl hik | (simp [e]; try omega)
  have p0 := mq_pb (x := f 0) (hf 0 (by decide)) (mq_gU (L := L) (S := S) (T := T) (b := 0)) mq_gI (he 0)
  have p1 := mq_pb (x := f 1) (hf 1 (by decide)) (mq_gU (L := L) (S := S) (T := T) (b := 1)) mq_gI (he 1)
  have p2 := mq_pb (x := f 2) (hf 2 (by decide)) (mq_gU (L := L) (S := S) (T := T) (b := 2)) mq_gI (he 2)
  have hF : mq_c f (mq_g L (mq_Un S T)) + mq_c f (mq_g L (mq_In S T)) + (f i + f k) ≤ mq_c f (mq_g L S) + mq_c f (mq_g L T) := by
    rw [← hsum]
    unfold mq_c
    omega
  omega
theorem mq_perm {c : Nat → Int} {S : Nat → Bool} {a b d : Nat} (ha : a < 3) (hb : b < 3) (hd : d < 3) (h1 : a ≠ b) (h2 : a ≠ d) (h3 : b ≠ d) : mq_c c S = (bif S a then c a else 0) + (bif S b then c b else 0) + (bif S d then c d else 0) := by
  unfold mq_c
  rcases (show a = 0 ∨ a = 1 ∨ a = 2 by omega) with rfl | rfl | rfl <;> rcases (show b = 0 ∨ b = 1 ∨ b = 2 by omega) with rfl | rfl | rfl <;> rcases (show d = 0 ∨ d = 1 ∨ d = 2 by omega) with rfl | rfl | rfl <;>
    first | exact absurd rfl h1 | exact absurd rfl h2 | exact absurd rfl h3 | omega
theorem mq_perms {c : Nat → Int} {a b d : Nat} (ha : a < 3) (hb : b < 3) (hd : d < 3) (h1 : a ≠ b) (h2 : a ≠ d) (h3 : b ≠ d) : mq_s c = c a + c b + c d := by
  unfold mq_s
  rcases (show a = 0 ∨ a = 1 ∨ a = 2 by omega) with rfl | rfl | rfl <;> rcases (show b = 0 ∨ b = 1 ∨ b = 2 by omega) with rfl | rfl | rfl <;> rcases (show d = 0 ∨ d = 1 ∨ d = 2 by omega) with rfl | rfl | rfl <;>
    first | exact absurd rfl h1 | exact absurd rfl h2 | exact absurd rfl h3 | omega
theorem mq_gp {L : Nat → Nat → Bool} {S : Nat → Bool} {i a b d : Nat} (ha : a < 3) (hb : b < 3) (hd : d < 3) (h1 : a ≠ b) (h2 : a ≠ d) (h3 : b ≠ d) : mq_g L S i = ((S a && L i a) || (S b && L i b) || (S d && L i d)) := by
  unfold mq_g
  rcases (show a = 0 ∨ a = 1 ∨ a = 2 by omega) with rfl | rfl | rfl <;> rcases (show b = 0 ∨ b = 1 ∨ b = 2 by omega) with rfl | rfl | rfl <;> rcases (show d = 0 ∨ d = 1 ∨ d = 2 by omega) with rfl | rfl | rfl <;>
    first | exact absurd rfl h1 | exact absurd rfl h2 | exact absurd rfl h3 | (generalize (S 0 && L i 0) = x; generalize (S 1 && L i 1) = y; generalize (S 2 && L i 2) = z; cases x <;> cases y <;> cases z <;> rfl)
/-- three alternate edges of a ring of six can't all be needed -/
theorem mq_no6 {L : Nat → Nat → Bool} {f c : Nat → Int} (hH : mq_H L f c) (hs : mq_s c = mq_s f) {x y z a b d : Nat} (hx : x < 3) (hy : y < 3) (hz : z < 3) (ha : a < 3) (hb : b < 3) (hd : d < 3)
    (hxy : x ≠ y) (hxz : x ≠ z) (hyz : y ≠ z) (hab : a ≠ b) (had : a ≠ d) (hbd : b ≠ d)
    (e1 : L x a = true) (e2 : L x d = true) (e3 : L y a = true) (e4 : L y b = true) (e5 : L z b = true) (e6 : L z d = true) (n1 : L x b = false) (n2 : L y d = false) (n3 : L z a = false)
    (c1 : ¬ mq_H (mq_rm L x a) f c) (c2 : ¬ mq_H (mq_rm L y b) f c) (c3 : ¬ mq_H (mq_rm L z d) f c) : False := by
  obtain ⟨S, s1, s2, s3⟩ := mq_crit hH hx ha c1
  obtain ⟨T, t1, t2, t3⟩ := mq_crit hH hy hb c2
  obtain ⟨V, v1, v2, v3⟩ := mq_crit hH hz hd c3
  have s4 : S d = false := by
    cases h : S d with
    | false => rfl
    | true => have := s2 d hd (Ne.symm had) h; rw [e2] at this; cases this
  have t4 : T a = false := by
    cases h : T a with
    | false => rfl
    | true => have := t2 a ha hab h; rw [e3] at this; cases this
  have v4 : V b = false := by
    cases h : V b with
    | false => rfl
    | true => have := v2 b hb hbd h; rw [e5] at this; cases this
  rw [mq_perm (c := f) hx hy hz hxy hxz hyz, mq_perm (c := c) ha hb hd hab had hbd, mq_gp (i := x) ha hb hd hab had hbd, mq_gp (i := y) ha hb hd hab had hbd, mq_gp (i := z) ha hb hd hab had hbd, s1, s4, e1, e2, e3, e4, e5, e6, n1, n2, n3] at s3
  rw [mq_perm (c := f) hx hy hz hxy hxz hyz, mq_perm (c := c) ha hb hd hab had hbd, mq_gp (i := x) ha hb hd hab had hbd, mq_gp (i := y) ha hb hd hab had hbd, mq_gp (i := z) ha hb hd hab had hbd, t1, t4, e1, e2, e3, e4, e5, e6, n1, n2, n3] at t3
  rw [mq_perm (c := f) hx hy hz hxy hxz hyz, mq_perm (c := c) ha hb hd hab had hbd, mq_gp (i := x) ha hb hd hab had hbd, mq_gp (i := y) ha hb hd hab had hbd, mq_gp (i := z) ha hb hd hab had hbd, v1, v4, e1, e2, e3, e4, e5, e6, n1, n2, n3] at v3
  rw [mq_perms (c := f) hx hy hz hxy hxz hyz, mq_perms (c := c) ha hb hd hab had hbd] at hs
  revert s3 t3 v3
  cases S b <;> cases T d <;> cases V a <;> simp only [Bool.and_true, Bool.and_false, Bool.true_and, Bool.false_and, Bool.or_true, Bool.or_false, Bool.true_or, Bool.false_or, cond_true, cond_false] <;> omega
def mq_4 (L : Nat → Nat → Bool) : Prop := ∀ i k j n : Nat, i < 3 → k < 3 → j < 3 → n < 3 → i ≠ k → j ≠ n → ¬ (L i j = true ∧ L i n = true ∧ L k j = true ∧ L k n = true)
def mq_6 (L : Nat → Nat → Bool) : Prop := ∀ x y z a b d : Nat, x < 3 → y < 3 → z < 3 → a < 3 → b < 3 → d < 3 → x ≠ y → x ≠ z → y ≠ z → a ≠ b → a ≠ d → b ≠ d → ¬ (L x a = true ∧ L x d = true ∧ L y a = true ∧ L y b = true ∧ L z b = true ∧ L z d = true)
/-- a part of the likings without a ring, at which still no set is too dear -/
theorem mq_forest {L : Nat → Nat → Bool} {f c : Nat → Int} (hf : ∀ i, i < 3 → 0 ≤ f i) (hH : mq_H L f c) (hs : mq_s c = mq_s f) :
    ∃ F : Nat → Nat → Bool, (∀ a b, F a b = true → L a b = true) ∧ mq_H F f c ∧ mq_4 F ∧ mq_6 F := by
  obtain ⟨n, ⟨F, hsub, hHF, hcnt⟩, hmin⟩ := pk_least (fun n => ∃ F : Nat → Nat → Bool, (∀ a b, F a b = true → L a b = true) ∧ mq_H F f c ∧ mq_cnt F = n) ⟨mq_cnt L, L, fun _ _ h => h, hH, rfl⟩
  have hcr : ∀ i j, i < 3 → j < 3 → F i j = true → ¬ mq_H (mq_rm F i j) f c := fun i j hi hj h hh =>
    hmin (mq_cnt (mq_rm F i j)) (by rw [← hcnt]; exact mq_rm_c hi hj h) ⟨mq_rm F i j, fun a b q => hsub a b (mq_rm_s q), hh, rfl⟩
  have h4 : mq_4 F := fun i k j n hi hk hj hn hik hjn ⟨e1, e2, e3, e4⟩ => mq_no4 hf hHF hi hk hj hn hik hjn e1 e2 e3 e4 (hcr i j hi hj e1) (hcr k n hk hn e4)
  refine ⟨F, hsub, hHF, h4, ?_⟩
  intro x y z a b d hx hy hz ha hb hd hxy hxz hyz hab had hbd ⟨e1, e2, e3, e4, e5, e6⟩
  have n1 : F x b = false := by
    cases h : F x b with
    | false => rfl
    | true => exact absurd ⟨e1, h, e3, e4⟩ (h4 x y a b hx hy ha hb hxy hab)
  have n2 : F y d = false := by
    cases h : F y d with
    | false => rfl
    | true => exact absurd ⟨e4, h, e5, e6⟩ (h4 y z b d hy hz hb hd hyz hbd)
  have n3 : F z a = false := by
    cases h : F z a with
    | false => rfl
    | true => exact absurd ⟨e1, e2, h, e6⟩ (h4 x z a d hx hz ha hd hxz had)
  exact mq_no6 hHF hs hx hy hz ha hb hd hxy hxz hyz hab had hbd e1 e2 e3 e4 e5 e6 n1 n2 n3 (hcr x a hx ha e1) (hcr y b hy hb e4) (hcr z d hz hd e6)
