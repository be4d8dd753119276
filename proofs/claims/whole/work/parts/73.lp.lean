/-! Pure part 4: finitely many linear inequalities over the rationals: a bounded one has a greatest value (by elimination). -/
def mr_dot : Nat → (Nat → Rat) → (Nat → Rat) → Rat
  | 0, _, _ => 0
  | n + 1, a, x => mr_dot n a x + a n * x n
abbrev mr_C : Type := (Nat → Rat) × Rat
def mr_sat (n : Nat) (C : List mr_C) (x : Nat → Rat) : Prop := ∀ k ∈ C, mr_dot n k.1 x ≤ k.2
def mr_ext (x : Nat → Rat) (n : Nat) (y : Rat) : Nat → Rat := fun i => if i = n then y else x i
theorem mr_dot_ext (a x : Nat → Rat) (m : Nat) (y : Rat) : ∀ n, n ≤ m → mr_dot n a (mr_ext x m y) = mr_dot n a x
  | 0, _ => rfl
  | n + 1, h => by
    have h1 := mr_dot_ext a x m y n (by omega)
    have h2 : mr_ext x m y n = x n := if_neg (by omega)
    simp only [mr_dot, h1, h2]
theorem mr_dot_S (a x : Nat → Rat) (n : Nat) (y : Rat) : mr_dot (n + 1) a (mr_ext x n y) = mr_dot n a x + a n * y := by
  have h2 : mr_ext x n y n = y := if_pos rfl
  simp only [mr_dot, mr_dot_ext a x n y n (Nat.le_refl n), h2]
theorem mr_dot_comb (a b x : Nat → Rat) (s t : Rat) : ∀ n, mr_dot n (fun i => a i * s + b i * t) x = mr_dot n a x * s + mr_dot n b x * t
  | 0 => by simp only [mr_dot]; grind
  | n + 1 => by
    have h := mr_dot_comb a b x s t n
    simp only [mr_dot, h]
    grind
theorem mr_low : ∀ Bs : List Rat, ∃ y, ∀ b ∈ Bs, y ≤ b
  | [] => ⟨0, fun _ h => absurd h List.not_mem_nil⟩
  | b :: Bs => by
    obtain ⟨y, hy⟩ := mr_low Bs
    by_cases h : y ≤ b
    · exact ⟨y, fun z hz => by
        rcases List.mem_cons.mp hz with rfl | hz
        · exact h
        · exact hy z hz⟩
    · have h' : b ≤ y := by grind
      exact ⟨b, fun z hz => by
        rcases List.mem_cons.mp hz with rfl | hz
        · grind
        · have := hy z hz; grind⟩
theorem mr_btw : ∀ (As Bs : List Rat), (∀ a ∈ As, ∀ b ∈ Bs, a ≤ b) → ∃ y, (∀ a ∈ As, a ≤ y) ∧ (∀ b ∈ Bs, y ≤ b)
  | [], Bs, _ => by
    obtain ⟨y, hy⟩ := mr_low Bs
    exact ⟨y, (fun _ h => absurd h List.not_mem_nil), hy⟩
  | a :: As, Bs, h => by
    obtain ⟨y, h1, h2⟩ := mr_btw As Bs (fun z hz => h z (List.mem_cons_of_mem _ hz))
    by_cases hc : a ≤ y
    · exact ⟨y, fun z hz => by
        rcases List.mem_cons.mp hz with rfl | hz
        · exact hc
        · exact h1 z hz, h2⟩
    · have hc' : y ≤ a := by grind
      exact ⟨a, fun z hz => by
        rcases List.mem_cons.mp hz with rfl | hz
        · grind
        · have := h1 z hz; grind, h a List.mem_cons_self⟩
def mr_comb (n : Nat) (p q : mr_C) : mr_C := (fun i => p.1 i * (- q.1 n) + q.1 i * p.1 n, p.2 * (- q.1 n) + q.2 * p.1 n)
theorem mr_elim (n : Nat) (C : List mr_C) : ∃ C' : List mr_C, ∀ x, mr_sat n C' x ↔ ∃ y, mr_sat (n + 1) C (mr_ext x n y) := by
  refine ⟨C.filter (fun p => decide (p.1 n = 0)) ++ (C.filter (fun p => decide (0 < p.1 n))).flatMap (fun p => (C.filter (fun q => decide (q.1 n < 0))).map (fun q => mr_comb n p q)), fun x => ⟨fun h => ?_, fun h => ?_⟩⟩
  · obtain ⟨y, h1, h2⟩ := mr_btw ((C.filter (fun q => decide (q.1 n < 0))).map (fun q => (q.2 - mr_dot n q.1 x) / q.1 n)) ((C.filter (fun p => decide (0 < p.1 n))).map (fun p => (p.2 - mr_dot n p.1 x) / p.1 n)) (by
      intro a ha b hb
      obtain ⟨q, hq, rfl⟩ := List.mem_map.mp ha
      obtain ⟨p, hp, rfl⟩ := List.mem_map.mp hb
      have hq0 : q.1 n < 0 := of_decide_eq_true (List.mem_filter.mp hq).2
      have hp0 : 0 < p.1 n := of_decide_eq_true (List.mem_filter.mp hp).2
      have hk := h (mr_comb n p q) (List.mem_append_right _ (List.mem_flatMap.mpr ⟨p, hp, List.mem_map.mpr ⟨q, hq, rfl⟩⟩))
      unfold mr_comb at hk
      rw [mr_dot_comb] at hk
      dsimp only at hk
      generalize mr_dot n p.1 x = dp at hk ⊢
      generalize mr_dot n q.1 x = dq at hk ⊢
      have hpn : p.1 n ≠ 0 := by grind
      have hqn : q.1 n ≠ 0 := by grind
      have e1 : (q.2 - dq) / q.1 n * q.1 n = q.2 - dq := Rat.div_mul_cancel hqn
      have e2 : (p.2 - dp) / p.1 n * p.1 n = p.2 - dp := Rat.div_mul_cancel hpn
      generalize (q.2 - dq) / q.1 n = u at e1 ⊢
      generalize (p.2 - dp) / p.1 n = w at e2 ⊢
      have hpos : 0 < p.1 n * (- q.1 n) := Rat.mul_pos hp0 (by grind)
      refine Rat.le_of_mul_le_mul_right (c := p.1 n * (- q.1 n)) ?_ hpos
      have f1 : u * (p.1 n * (- q.1 n)) = - (q.2 - dq) * p.1 n := by rw [← e1]; grind
      have f2 : w * (p.1 n * (- q.1 n)) = (p.2 - dp) * (- q.1 n) := by rw [← e2]; grind
      rw [f1, f2]
      grind)
    refine ⟨y, fun k hk => ?_⟩
    rw [mr_dot_S]
    by_cases h0 : k.1 n = 0
    · have := h k (List.mem_append_left _ (List.mem_filter.mpr ⟨hk, decide_eq_true h0⟩))
      rw [h0]
      grind
    · by_cases hp : 0 < k.1 n
      · have hb := h2 _ (List.mem_map.mpr ⟨k, List.mem_filter.mpr ⟨hk, decide_eq_true hp⟩, rfl⟩)
        have e2 : (k.2 - mr_dot n k.1 x) / k.1 n * k.1 n = k.2 - mr_dot n k.1 x := Rat.div_mul_cancel h0
        have := Rat.mul_le_mul_of_nonneg_right hb (Rat.le_of_lt hp)
        rw [e2] at this
        grind
      · have hq : k.1 n < 0 := by grind
        have hb := h1 _ (List.mem_map.mpr ⟨k, List.mem_filter.mpr ⟨hk, decide_eq_true hq⟩, rfl⟩)
        have e2 : (k.2 - mr_dot n k.1 x) / k.1 n * k.1 n = k.2 - mr_dot n k.1 x := Rat.div_mul_cancel h0
        have hneg : 0 ≤ - k.1 n := by grind
        have := Rat.mul_le_mul_of_nonneg_right hb hneg
        have e3 : (k.2 - mr_dot n k.1 x) / k.1 n * (- k.1 n) = - (k.2 - mr_dot n k.1 x) := by
          have e4 : (k.2 - mr_dot n k.1 x) / k.1 n * (- k.1 n) = - ((k.2 - mr_dot n k.1 x) / k.1 n * k.1 n) := by grind
          rw [e4, e2]
        rw [e3] at this
        grind
  · obtain ⟨y, hy⟩ := h
    intro k hk
    rcases List.mem_append.mp hk with hk | hk
    · obtain ⟨hkC, h0⟩ := List.mem_filter.mp hk
      have h0 : k.1 n = 0 := of_decide_eq_true h0
      have := hy k hkC
      rw [mr_dot_S, h0] at this
      grind
    · obtain ⟨p, hp, hk⟩ := List.mem_flatMap.mp hk
      obtain ⟨q, hq, rfl⟩ := List.mem_map.mp hk
      obtain ⟨hpC, hp0⟩ := List.mem_filter.mp hp
      obtain ⟨hqC, hq0⟩ := List.mem_filter.mp hq
      have hp0 : 0 < p.1 n := of_decide_eq_true hp0
      have hq0 : q.1 n < 0 := of_decide_eq_true hq0
      have h1 := hy p hpC
      have h2 := hy q hqC
      rw [mr_dot_S] at h1 h2
      unfold mr_comb
      rw [mr_dot_comb]
      dsimp only
      have g1 := Rat.mul_le_mul_of_nonneg_right h1 (show 0 ≤ - q.1 n by grind)
      have g2 := Rat.mul_le_mul_of_nonneg_right h2 (Rat.le_of_lt hp0)
      grind
theorem mr_proj : ∀ (n : Nat) (C : List mr_C), ∃ C1 : List mr_C, ∀ t : Rat, mr_sat 1 C1 (fun _ => t) ↔ ∃ x : Nat → Rat, x 0 = t ∧ mr_sat (n + 1) C x
  | 0, C => ⟨C, fun t => ⟨fun h => ⟨fun _ => t, rfl, h⟩, fun ⟨x, h0, h⟩ k hk => by
      have := h k hk
      simp only [mr_dot] at this ⊢
      rw [h0] at this
      exact this⟩⟩
  | n + 1, C => by
    obtain ⟨C', h'⟩ := mr_elim (n + 1) C
    obtain ⟨C1, h1⟩ := mr_proj n C'
    refine ⟨C1, fun t => (h1 t).trans ⟨fun ⟨x, h0, h⟩ => ?_, fun ⟨x, h0, h⟩ => ?_⟩⟩
    · obtain ⟨y, hy⟩ := (h' x).mp h
      exact ⟨mr_ext x (n + 1) y, by rw [← h0]; exact if_neg (by omega), hy⟩
    · refine ⟨x, h0, (h' x).mpr ⟨x (n + 1), ?_⟩⟩
      have : mr_ext x (n + 1) (x (n + 1)) = x := funext fun i => by
        unfold mr_ext
        by_cases hi : i = n + 1
        · rw [if_pos hi, hi]
        · rw [if_neg hi]
      rw [this]
      exact h
theorem mr_min : ∀ l : List Rat, l ≠ [] → ∃ m ∈ l, ∀ b ∈ l, m ≤ b
  | [], h => absurd rfl h
  | [a], _ => ⟨a, List.mem_cons_self, fun b hb => by
      rcases List.mem_cons.mp hb with rfl | hb
      · grind
      · cases hb⟩
  | a :: b :: l, _ => by
    obtain ⟨m, hm, hl⟩ := mr_min (b :: l) (by simp)
    by_cases h : a ≤ m
    · exact ⟨a, List.mem_cons_self, fun z hz => by
        rcases List.mem_cons.mp hz with rfl | hz
        · grind
        · have := hl z hz; grind⟩
    · exact ⟨m, List.mem_cons_of_mem _ hm, fun z hz => by
        rcases List.mem_cons.mp hz with rfl | hz
        · grind
        · exact hl z hz⟩
theorem mr_max1 {C : List mr_C} {t0 B : Rat} (h0 : mr_sat 1 C (fun _ => t0)) (hB : ∀ t, mr_sat 1 C (fun _ => t) → t ≤ B) : ∃ t, mr_sat 1 C (fun _ => t) ∧ ∀ s, mr_sat 1 C (fun _ => s) → s ≤ t := by
  have hd : ∀ (k : mr_C) (t : Rat), mr_dot 1 k.1 (fun _ => t) = k.1 0 * t := fun k t => by simp only [mr_dot]; grind
  have hup : ∀ t, t0 ≤ t → (∀ k ∈ C, 0 < k.1 0 → k.1 0 * t ≤ k.2) → mr_sat 1 C (fun _ => t) := fun t ht hk k hkC => by
    rw [hd]
    by_cases hp : 0 < k.1 0
    · exact hk k hkC hp
    · have h1 := h0 k hkC
      rw [hd] at h1
      have h2 := Rat.mul_le_mul_of_nonneg_left ht (show 0 ≤ - k.1 0 by grind)
      grind
  by_cases hne : (C.filter (fun k => decide (0 < k.1 0))).map (fun k => k.2 / k.1 0) = []
  · exfalso
    have hn : ∀ k ∈ C, ¬ 0 < k.1 0 := fun k hk hp => by
      have : k ∈ C.filter (fun k => decide (0 < k.1 0)) := List.mem_filter.mpr ⟨hk, decide_eq_true hp⟩
      rw [List.map_eq_nil_iff.mp hne] at this
      cases this
    by_cases hc : t0 ≤ B + 1
    · have := hB (B + 1) (hup _ hc (fun k hk hp => absurd hp (hn k hk)))
      grind
    · have := hB t0 h0
      grind
  · obtain ⟨t, ht, hmin⟩ := mr_min _ hne
    obtain ⟨k, hk, hkt⟩ := List.mem_map.mp ht
    obtain ⟨hkC, hk0⟩ := List.mem_filter.mp hk
    have hk0 : 0 < k.1 0 := of_decide_eq_true hk0
    have hkn : k.1 0 ≠ 0 := by grind
    have hle : ∀ s, mr_sat 1 C (fun _ => s) → s ≤ t := fun s hs => by
      have h1 := hs k hkC
      rw [hd] at h1
      refine Rat.le_of_mul_le_mul_left (c := k.1 0) ?_ hk0
      have : k.1 0 * t = k.2 := by rw [← hkt, Rat.mul_comm, Rat.div_mul_cancel hkn]
      rw [this]
      exact h1
    refine ⟨t, hup t (hle t0 h0) (fun q hq hq0 => ?_), hle⟩
    have h1 := hmin _ (List.mem_map.mpr ⟨q, List.mem_filter.mpr ⟨hq, decide_eq_true hq0⟩, rfl⟩)
    have hqn : q.1 0 ≠ 0 := by grind
    have h2 := Rat.mul_le_mul_of_nonneg_left h1 (Rat.le_of_lt hq0)
    have : q.1 0 * (q.2 / q.1 0) = q.2 := by rw [Rat.mul_comm, Rat.div_mul_cancel hqn]
    rw [this] at h2
    exact h2
/-- finitely many linear inequalities in four numbers -/
def mr_Lin (P : (Nat → Rat) → Prop) : Prop := ∃ C : List mr_C, ∀ x, P x ↔ mr_sat 4 C x
theorem mr_lp {P : (Nat → Rat) → Prop} (hP : mr_Lin P) {x0 : Nat → Rat} (hx0 : P x0) {B : Rat} (hB : ∀ x, P x → x 0 ≤ B) : ∃ x, P x ∧ ∀ y, P y → y 0 ≤ x 0 := by
  obtain ⟨C, hC⟩ := hP
  obtain ⟨C1, h1⟩ := mr_proj 3 C
  obtain ⟨t, ht, hmax⟩ := mr_max1 (C := C1) (t0 := x0 0) (B := B) ((h1 _).mpr ⟨x0, rfl, (hC x0).mp hx0⟩) (fun t ht => by
    obtain ⟨x, hx, hs⟩ := (h1 t).mp ht
    rw [← hx]
    exact hB x ((hC x).mpr hs))
  obtain ⟨x, hx, hs⟩ := (h1 t).mp ht
  refine ⟨x, (hC x).mpr hs, fun y hy => ?_⟩
  rw [hx]
  exact hmax _ ((h1 _).mpr ⟨y, rfl, (hC y).mp hy⟩)
theorem mr_Lin.and {P Q : (Nat → Rat) → Prop} (hP : mr_Lin P) (hQ : mr_Lin Q) : mr_Lin (fun x => P x ∧ Q x) := by
  obtain ⟨C, hC⟩ := hP
  obtain ⟨D, hD⟩ := hQ
  refine ⟨C ++ D, fun x => ?_⟩
  show P x ∧ Q x ↔ _
  rw [hC x, hD x]
  exact ⟨fun h k hk => (List.mem_append.mp hk).elim (h.1 k) (h.2 k), fun h => ⟨fun k hk => h k (List.mem_append_left _ hk), fun k hk => h k (List.mem_append_right _ hk)⟩⟩
theorem mr_Lin.tt : mr_Lin (fun _ => True) := ⟨[], fun _ => ⟨(fun _ _ h => absurd h List.not_mem_nil), fun _ => trivial⟩⟩
theorem mr_dot0 (x : Nat → Rat) : ∀ n, mr_dot n (fun _ => 0) x = 0
  | 0 => rfl
  | n + 1 => by simp only [mr_dot, mr_dot0 x n]; grind
theorem mr_Lin.ff : mr_Lin (fun _ => False) := ⟨[(fun _ => 0, -1)], fun x => ⟨fun h => h.elim, fun h => by
  have := h _ List.mem_cons_self
  dsimp only at this
  rw [mr_dot0] at this
  grind⟩⟩
theorem mr_Lin.of {P Q : (Nat → Rat) → Prop} (h : mr_Lin P) (e : ∀ x, Q x ↔ P x) : mr_Lin Q := by
  obtain ⟨C, hC⟩ := h
  exact ⟨C, fun x => (e x).trans (hC x)⟩
theorem mr_Lin.const (p : Prop) : mr_Lin (fun _ => p) := by
  by_cases h : p
  · exact mr_Lin.tt.of (fun _ => ⟨fun _ => trivial, fun _ => h⟩)
  · exact mr_Lin.ff.of (fun _ => ⟨h, fun q => q.elim⟩)
theorem mr_Lin.imp {P : (Nat → Rat) → Prop} (p : Prop) (h : p → mr_Lin P) : mr_Lin (fun x => p → P x) := by
  by_cases hp : p
  · exact (h hp).of (fun x => ⟨fun q => q hp, fun q _ => q⟩)
  · exact mr_Lin.tt.of (fun x => ⟨fun _ => trivial, fun _ q => absurd q hp⟩)
theorem mr_Lin.all {P : Nat → (Nat → Rat) → Prop} (h : ∀ j, mr_Lin (P j)) : ∀ n, mr_Lin (fun x => ∀ j, j < n → P j x)
  | 0 => mr_Lin.tt.of (fun x => ⟨fun _ => trivial, fun _ j hj => absurd hj (Nat.not_lt_zero j)⟩)
  | n + 1 => ((mr_Lin.all h n).and (h n)).of (fun x => ⟨fun q => ⟨fun j hj => q j (by omega), q n (by omega)⟩, fun q j hj => by
      by_cases e : j = n
      · rw [e]; exact q.2
      · exact q.1 j (by omega)⟩)
theorem mr_Lin.bool {P : Bool → (Nat → Rat) → Prop} (h : ∀ b, mr_Lin (P b)) : mr_Lin (fun x => ∀ b, P b x) :=
  ((h true).and (h false)).of (fun x => ⟨fun q => ⟨q true, q false⟩, fun q b => by cases b; exact q.2; exact q.1⟩)
/-- a linear form in the four numbers -/
def mr_LF (f : (Nat → Rat) → Rat) : Prop := ∃ (a : Nat → Rat) (b : Rat), ∀ x, f x = mr_dot 4 a x + b
theorem mr_LF.var (r : Nat) (hr : r < 4) : mr_LF (fun x => x r) := by
  refine ⟨fun i => if i = r then 1 else 0, 0, fun x => ?_⟩
  rcases (show r = 0 ∨ r = 1 ∨ r = 2 ∨ r = 3 by omega) with rfl | rfl | rfl | rfl <;> simp [mr_dot] <;> grind
theorem mr_LF.const (k : Rat) : mr_LF (fun _ => k) := ⟨fun _ => 0, k, fun x => by rw [mr_dot0]; grind⟩
theorem mr_LF.lin {f g : (Nat → Rat) → Rat} (hf : mr_LF f) (hg : mr_LF g) (s t : Rat) : mr_LF (fun x => f x * s + g x * t) := by
  obtain ⟨a, b, h1⟩ := hf
  obtain ⟨a', b', h2⟩ := hg
  refine ⟨fun i => a i * s + a' i * t, b * s + b' * t, fun x => ?_⟩
  show f x * s + g x * t = _
  rw [mr_dot_comb, h1 x, h2 x]
  grind
theorem mr_LF.add {f g : (Nat → Rat) → Rat} (hf : mr_LF f) (hg : mr_LF g) : mr_LF (fun x => f x + g x) := by
  have := hf.lin hg 1 1
  obtain ⟨a, b, h⟩ := this
  exact ⟨a, b, fun x => by rw [← h x]; grind⟩
theorem mr_LF.mul {f : (Nat → Rat) → Rat} (hf : mr_LF f) (k : Rat) : mr_LF (fun x => k * f x) := by
  have := hf.lin hf k 0
  obtain ⟨a, b, h⟩ := this
  exact ⟨a, b, fun x => by rw [← h x]; grind⟩
theorem mr_LF.cond {f : (Nat → Rat) → Rat} (hf : mr_LF f) (s : Bool) : mr_LF (fun x => bif s then f x else 0) := by
  cases s
  · exact mr_LF.const 0
  · exact hf
theorem mr_Lin.le {f g : (Nat → Rat) → Rat} (hf : mr_LF f) (hg : mr_LF g) : mr_Lin (fun x => f x ≤ g x) := by
  obtain ⟨a, b, h⟩ := hf.lin hg 1 (-1)
  refine ⟨[(a, -b)], fun x => ?_⟩
  have hx := h x
  constructor
  · intro hle k hk
    rcases List.mem_cons.mp hk with rfl | hk
    · dsimp only; grind
    · cases hk
  · intro hs
    have := hs _ List.mem_cons_self
    dsimp only at this
    grind
