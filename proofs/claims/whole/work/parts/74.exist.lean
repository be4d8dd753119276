/-! Pure part 5: there are fair prices (over the rationals): of all prices at which no set is too dear take some of greatest sum. -/
def mr_c (p : Nat → Rat) (S : Nat → Bool) : Rat := (bif S 0 then p 0 else 0) + (bif S 1 then p 1 else 0) + (bif S 2 then p 2 else 0)
def mr_S (b0 b1 b2 : Bool) : Nat → Bool := fun j => match j with
  | 0 => b0
  | 1 => b1
  | _ => b2
def mr_E (a0 a1 a2 b0 b1 b2 c0 c1 c2 : Bool) : Nat → Nat → Bool := fun i => match i with
  | 0 => mr_S a0 a1 a2
  | 1 => mr_S b0 b1 b2
  | _ => mr_S c0 c1 c2
theorem mr_c_S (p : Nat → Rat) (S : Nat → Bool) : mr_c p S = mr_c p (mr_S (S 0) (S 1) (S 2)) := rfl
theorem mr_g_S (E : Nat → Nat → Bool) (S : Nat → Bool) : mq_g E S = mq_g E (mr_S (S 0) (S 1) (S 2)) := rfl
theorem mr_ad {a b c d : Rat} (h1 : a ≤ b) (h2 : c ≤ d) : a + c ≤ b + d := by grind
theorem mr_ad3 {a b c d e f : Rat} (h1 : a ≤ b) (h2 : c ≤ d) (h3 : e ≤ f) : a + c + e ≤ b + d + f := by grind
theorem mr_bm {x : Rat} {s t : Bool} (hx : 0 ≤ x) (h : s = true → t = true) : (bif s then x else 0) ≤ (bif t then x else 0) := by
  cases s <;> cases t <;> first | (simp only [cond_true, cond_false]; grind) | exact absurd (h rfl) (by decide)
theorem mr_cm {f : Nat → Rat} {S T : Nat → Bool} (hf : ∀ i, i < 3 → 0 ≤ f i) (h : ∀ a, a < 3 → S a = true → T a = true) : mr_c f S ≤ mr_c f T :=
  mr_ad3 (mr_bm (hf 0 (by decide)) (h 0 (by decide))) (mr_bm (hf 1 (by decide)) (h 1 (by decide))) (mr_bm (hf 2 (by decide)) (h 2 (by decide)))
theorem mr_b0 {x : Rat} {s : Bool} (hx : 0 ≤ x) : 0 ≤ (bif s then x else 0) := by
  cases s
  · simp only [cond_false]; grind
  · exact hx
theorem mr_c0 {f : Nat → Rat} {S : Nat → Bool} (hf : ∀ i, i < 3 → 0 ≤ f i) : 0 ≤ mr_c f S := by
  have a0 := mr_b0 (s := S 0) (hf 0 (by decide))
  have a1 := mr_b0 (s := S 1) (hf 1 (by decide))
  have a2 := mr_b0 (s := S 2) (hf 2 (by decide))
  have := mr_ad3 a0 a1 a2
  unfold mr_c
  have e : (0 : Rat) + 0 + 0 = 0 := by grind
  rw [e] at this
  exact this
/-- the prices p with the likings E: above their floors, what is liked is best, no set too dear -/
def mr_feas (nb ng : Nat) (v : Nat → Nat → Rat) (m lo : Nat → Rat) (E : Nat → Nat → Bool) (p : Nat → Rat) : Prop :=
  (∀ j, j < 3 → lo j ≤ p j) ∧ (∀ j, j < 3 → (ng ≤ j → p j ≤ 0)) ∧
  (∀ i, i < 3 → ∀ j, j < 3 → (E i j = true → ((i < nb ∧ j < ng ∧ 0 < v i j) ∧ ∀ k, k < 3 → (k < ng → v i k * p j ≤ v i j * p k)))) ∧
  (∀ b0 b1 b2 : Bool, mr_c p (mr_S b0 b1 b2) ≤ mr_c m (mq_g E (mr_S b0 b1 b2)))
theorem mr_feas_H {nb ng : Nat} {v : Nat → Nat → Rat} {m lo : Nat → Rat} {E : Nat → Nat → Bool} {p : Nat → Rat} (h : mr_feas nb ng v m lo E p) (S : Nat → Bool) : mr_c p S ≤ mr_c m (mq_g E S) := by
  rw [mr_c_S, mr_g_S]
  exact h.2.2.2 _ _ _
theorem mr_LF.cS {f : Nat → (Nat → Rat) → Rat} (hf : ∀ j, j < 3 → mr_LF (f j)) (S : Nat → Bool) : mr_LF (fun x => mr_c (fun j => f j x) S) :=
  (((hf 0 (by decide)).cond (S 0)).add ((hf 1 (by decide)).cond (S 1))).add ((hf 2 (by decide)).cond (S 2))
def mr_P (nb ng : Nat) (v : Nat → Nat → Rat) (m lo : Nat → Rat) (E : Nat → Nat → Bool) (x : Nat → Rat) : Prop :=
  (x 0 ≤ x 1 + x 2 + x 3 ∧ x 1 + x 2 + x 3 ≤ x 0) ∧ mr_feas nb ng v m lo E (fun j => x (j + 1))
theorem mr_P_lin (nb ng : Nat) (v : Nat → Nat → Rat) (m lo : Nat → Rat) (E : Nat → Nat → Bool) : mr_Lin (mr_P nb ng v m lo E) := by
  have hv : ∀ j, j < 3 → mr_LF (fun x => x (j + 1)) := fun j hj => mr_LF.var (j + 1) (by omega)
  have hs : mr_LF (fun x => x 1 + x 2 + x 3) := ((mr_LF.var 1 (by decide)).add (mr_LF.var 2 (by decide))).add (mr_LF.var 3 (by decide))
  have h0 : mr_LF (fun x => x 0) := mr_LF.var 0 (by decide)
  have va : ∀ j, mr_LF (fun x => if j < 3 then x (j + 1) else 0) := fun j => by
    by_cases hj : j < 3
    · simp only [if_pos hj]; exact hv j hj
    · simp only [if_neg hj]; exact mr_LF.const 0
  refine ((mr_Lin.le h0 hs).and (mr_Lin.le hs h0)).and (mr_Lin.and ?_ (mr_Lin.and ?_ (mr_Lin.and ?_ ?_)))
  · refine (mr_Lin.all (P := fun j x => lo j ≤ (if j < 3 then x (j + 1) else 0)) (fun j => mr_Lin.le (mr_LF.const (lo j)) (va j)) 3).of (fun x => ⟨fun q j hj => ?_, fun q j hj => ?_⟩)
    · rw [if_pos hj]; exact q j hj
    · have := q j hj; rw [if_pos hj] at this; exact this
  · refine (mr_Lin.all (P := fun j x => ng ≤ j → (if j < 3 then x (j + 1) else 0) ≤ 0) (fun j => mr_Lin.imp _ fun _ => mr_Lin.le (va j) (mr_LF.const 0)) 3).of (fun x => ⟨fun q j hj hn => ?_, fun q j hj hn => ?_⟩)
    · rw [if_pos hj]; exact q j hj hn
    · have := q j hj hn; rw [if_pos hj] at this; exact this
  · refine (mr_Lin.all (P := fun i x => ∀ j, j < 3 → (E i j = true → ((i < nb ∧ j < ng ∧ 0 < v i j) ∧ ∀ k, k < 3 → (k < ng → v i k * (if j < 3 then x (j + 1) else 0) ≤ v i j * (if k < 3 then x (k + 1) else 0))))) (fun i =>
      mr_Lin.all (fun j => mr_Lin.imp _ fun _ => (mr_Lin.const _).and (mr_Lin.all (fun k => mr_Lin.imp _ fun _ => mr_Lin.le ((va j).mul (v i k)) ((va k).mul (v i j))) 3)) 3) 3).of (fun x => ⟨fun q i hi j hj he => ?_, fun q i hi j hj he => ?_⟩)
    · obtain ⟨q1, q2⟩ := q i hi j hj he
      refine ⟨q1, fun k hk hkg => ?_⟩
      rw [if_pos hj, if_pos hk]
      exact q2 k hk hkg
    · obtain ⟨q1, q2⟩ := q i hi j hj he
      refine ⟨q1, fun k hk hkg => ?_⟩
      have := q2 k hk hkg
      rw [if_pos hj, if_pos hk] at this
      exact this
  · exact mr_Lin.bool fun b0 => mr_Lin.bool fun b1 => mr_Lin.bool fun b2 => mr_Lin.le (mr_LF.cS (f := fun j x => x (j + 1)) hv _) (mr_LF.const _)
def mr_HM (Q : Rat → Prop) : Prop := (∀ t, ¬ Q t) ∨ ∃ t, Q t ∧ ∀ s, Q s → s ≤ t
theorem mr_mx {Q : Bool → Rat → Prop} (h : ∀ b, mr_HM (Q b)) : mr_HM (fun t => ∃ b, Q b t) := by
  rcases h true with h1 | ⟨t1, h1, h1'⟩ <;> rcases h false with h2 | ⟨t2, h2, h2'⟩
  · left
    rintro t ⟨b, hb⟩
    cases b
    · exact h2 t hb
    · exact h1 t hb
  · right
    refine ⟨t2, ⟨false, h2⟩, ?_⟩
    rintro s ⟨b, hb⟩
    cases b
    · exact h2' s hb
    · exact absurd hb (h1 s)
  · right
    refine ⟨t1, ⟨true, h1⟩, ?_⟩
    rintro s ⟨b, hb⟩
    cases b
    · exact absurd hb (h2 s)
    · exact h1' s hb
  · right
    by_cases hc : t1 ≤ t2
    · refine ⟨t2, ⟨false, h2⟩, ?_⟩
      rintro s ⟨b, hb⟩
      cases b
      · exact h2' s hb
      · have := h1' s hb; grind
    · refine ⟨t1, ⟨true, h1⟩, ?_⟩
      rintro s ⟨b, hb⟩
      cases b
      · have := h2' s hb; grind
      · exact h1' s hb
def mr_Q (nb ng : Nat) (v : Nat → Nat → Rat) (m lo : Nat → Rat) (E : Nat → Nat → Bool) (t : Rat) : Prop := ∃ p : Nat → Rat, mr_feas nb ng v m lo E p ∧ t = p 0 + p 1 + p 2
theorem mr_Q_max (nb ng : Nat) (v : Nat → Nat → Rat) (m lo : Nat → Rat) (hm : ∀ i, i < 3 → 0 ≤ m i) (E : Nat → Nat → Bool) : mr_HM (mr_Q nb ng v m lo E) := by
  by_cases he : ∃ p, mr_feas nb ng v m lo E p
  · right
    obtain ⟨p, hp⟩ := he
    let x0 : Nat → Rat := fun r => match r with
      | 0 => p 0 + p 1 + p 2
      | r + 1 => p r
    obtain ⟨x, hx, hmax⟩ := mr_lp (mr_P_lin nb ng v m lo E) (x0 := x0) ⟨⟨Rat.le_refl, Rat.le_refl⟩, hp⟩ (B := m 0 + m 1 + m 2) (fun x hx => by
      have h1 := hx.2.2.2.2 true true true
      have h2 : mr_c m (mq_g E (mr_S true true true)) ≤ mr_c m (fun _ => true) := mr_cm hm (fun _ _ _ => rfl)
      have h3 : mr_c m (fun _ => true) = m 0 + m 1 + m 2 := rfl
      have h4 : mr_c (fun j => x (j + 1)) (mr_S true true true) = x 1 + x 2 + x 3 := rfl
      have h5 := hx.1.1
      grind)
    refine ⟨x 0, ⟨fun j => x (j + 1), hx.2, ?_⟩, ?_⟩
    · exact Rat.le_antisymm hx.1.1 hx.1.2
    · rintro s ⟨q, hq, rfl⟩
      exact hmax (fun r => match r with
        | 0 => q 0 + q 1 + q 2
        | r + 1 => q r) ⟨⟨Rat.le_refl, Rat.le_refl⟩, hq⟩
  · left
    rintro t ⟨p, hp, -⟩
    exact he ⟨p, hp⟩
theorem mr_feas_E {nb ng : Nat} {v : Nat → Nat → Rat} {m lo : Nat → Rat} {E F : Nat → Nat → Bool} {p : Nat → Rat} (h : mr_feas nb ng v m lo E p) (e : ∀ i j, i < 3 → j < 3 → E i j = F i j) : mr_feas nb ng v m lo F p := by
  refine ⟨h.1, h.2.1, fun i hi j hj he => h.2.2.1 i hi j hj (by rw [e i j hi hj]; exact he), fun b0 b1 b2 => ?_⟩
  have := h.2.2.2 b0 b1 b2
  have e0 : ∀ i, i < 3 → mq_g F (mr_S b0 b1 b2) i = mq_g E (mr_S b0 b1 b2) i := fun i hi => by
    unfold mq_g
    rw [e i 0 hi (by decide), e i 1 hi (by decide), e i 2 hi (by decide)]
  unfold mr_c at this ⊢
  rw [e0 0 (by decide), e0 1 (by decide), e0 2 (by decide)]
  exact this
/-- of all prices at which no set is too dear some have the greatest sum -/
theorem mr_best (nb ng : Nat) (v : Nat → Nat → Rat) (m lo : Nat → Rat) (hm : ∀ i, i < 3 → 0 ≤ m i) {E0 : Nat → Nat → Bool} {p0 : Nat → Rat} (h0 : mr_feas nb ng v m lo E0 p0) :
    ∃ (E : Nat → Nat → Bool) (p : Nat → Rat), mr_feas nb ng v m lo E p ∧ ∀ F q, mr_feas nb ng v m lo F q → q 0 + q 1 + q 2 ≤ p 0 + p 1 + p 2 := by
  have key : mr_HM (fun t => ∃ a0 a1 a2 b0 b1 b2 c0 c1 c2 : Bool, mr_Q nb ng v m lo (mr_E a0 a1 a2 b0 b1 b2 c0 c1 c2) t) :=
    mr_mx fun a0 => mr_mx fun a1 => mr_mx fun a2 => mr_mx fun b0 => mr_mx fun b1 => mr_mx fun b2 => mr_mx fun c0 => mr_mx fun c1 => mr_mx fun c2 => mr_Q_max nb ng v m lo hm _
  have tab : ∀ (F : Nat → Nat → Bool) (q : Nat → Rat), mr_feas nb ng v m lo F q → mr_Q nb ng v m lo (mr_E (F 0 0) (F 0 1) (F 0 2) (F 1 0) (F 1 1) (F 1 2) (F 2 0) (F 2 1) (F 2 2)) (q 0 + q 1 + q 2) := fun F q hq =>
    ⟨q, mr_feas_E hq (fun i j hi hj => by
      rcases (show i = 0 ∨ i = 1 ∨ i = 2 by omega) with rfl | rfl | rfl <;> rcases (show j = 0 ∨ j = 1 ∨ j = 2 by omega) with rfl | rfl | rfl <;> rfl), rfl⟩
  rcases key with h | ⟨t, ⟨a0, a1, a2, b0, b1, b2, c0, c1, c2, p, hp, rfl⟩, hmax⟩
  · exact absurd ⟨_, _, _, _, _, _, _, _, _, tab E0 p0 h0⟩ (h _)
  · exact ⟨_, p, hp, fun F q hq => hmax _ ⟨_, _, _, _, _, _, _, _, _, tab F q hq⟩⟩
/-- true for all small numbers above 0 -/
def mr_Sm (P : Rat → Prop) : Prop := ∃ d : Rat, 0 < d ∧ ∀ e, 0 < e → e ≤ d → P e
theorem mr_Sm.and {P Q : Rat → Prop} (h1 : mr_Sm P) (h2 : mr_Sm Q) : mr_Sm (fun e => P e ∧ Q e) := by
  obtain ⟨d1, p1, q1⟩ := h1
  obtain ⟨d2, p2, q2⟩ := h2
  by_cases h : d1 ≤ d2
  · exact ⟨d1, p1, fun e he hd => ⟨q1 e he hd, q2 e he (by grind)⟩⟩
  · exact ⟨d2, p2, fun e he hd => ⟨q1 e he (by grind), q2 e he hd⟩⟩
theorem mr_Sm.tt {P : Rat → Prop} (h : ∀ e, P e) : mr_Sm P := ⟨1, by decide, fun e _ _ => h e⟩
theorem mr_Sm.all {P : Nat → Rat → Prop} (h : ∀ j, mr_Sm (P j)) : ∀ n, mr_Sm (fun e => ∀ j, j < n → P j e)
  | 0 => mr_Sm.tt (fun e j hj => absurd hj (Nat.not_lt_zero j))
  | n + 1 => by
    obtain ⟨d, hd, hh⟩ := (mr_Sm.all h n).and (h n)
    exact ⟨d, hd, fun e he hde j hj => by
      by_cases q : j = n
      · rw [q]; exact (hh e he hde).2
      · exact (hh e he hde).1 j (by omega)⟩
theorem mr_Sm.bool {P : Bool → Rat → Prop} (h : ∀ b, mr_Sm (P b)) : mr_Sm (fun e => ∀ b, P b e) := by
  obtain ⟨d, hd, hh⟩ := (h true).and (h false)
  exact ⟨d, hd, fun e he hde b => by cases b; exact (hh e he hde).2; exact (hh e he hde).1⟩
theorem mr_Sm.imp {P : Rat → Prop} (p : Prop) (h : p → mr_Sm P) : mr_Sm (fun e => p → P e) := by
  by_cases hp : p
  · obtain ⟨d, hd, hh⟩ := h hp
    exact ⟨d, hd, fun e he hde _ => hh e he hde⟩
  · exact mr_Sm.tt (fun e q => absurd q hp)
theorem mr_Sm.lt {a b : Rat} (ha : 0 ≤ a) (h : a < b) : mr_Sm (fun e => a * (1 + e) ≤ b) := by
  have h1 : 0 < a + 1 := by grind
  have h2 : a + 1 ≠ 0 := by grind
  refine ⟨(b - a) / (a + 1), ?_, fun e he hd => ?_⟩
  · refine (Rat.lt_div_iff h1).mpr ?_
    grind
  · have h3 := Rat.mul_le_mul_of_nonneg_right hd (Rat.le_of_lt h1)
    rw [Rat.div_mul_cancel h2] at h3
    grind
