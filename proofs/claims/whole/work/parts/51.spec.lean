/-! sums, counts, greatest ones -/
abbrev g_F : Type := Nat → Nat → Nat
def g_sum (f : Nat → Nat) : Nat → Nat
  | 0 => 0
  | n + 1 => g_sum f n + f n
def g_cnt (p : Nat → Bool) (n : Nat) : Nat := g_sum (fun i => if p i then 1 else 0) n
def g_mx (f : Nat → Nat) : Nat → Nat
  | 0 => 0
  | n + 1 => max (g_mx f n) (f n)
def g_first (p : Nat → Bool) : Nat → Nat
  | 0 => 0
  | n + 1 => if g_first p n < n then g_first p n else if p n then n else n + 1
theorem g_sum_congr {f g : Nat → Nat} : ∀ {n : Nat}, (∀ i, i < n → f i = g i) → g_sum f n = g_sum g n
  | 0, _ => rfl
  | n + 1, h => by rw [g_sum, g_sum, g_sum_congr (fun i hi => h i (by omega)), h n (by omega)]
theorem g_sum_zero {f : Nat → Nat} : ∀ {n : Nat}, (∀ i, i < n → f i = 0) → g_sum f n = 0
  | 0, _ => rfl
  | n + 1, h => by rw [g_sum, g_sum_zero (fun i hi => h i (by omega)), h n (by omega)]
theorem g_sum_le {f g : Nat → Nat} : ∀ {n : Nat}, (∀ i, i < n → f i ≤ g i) → g_sum f n ≤ g_sum g n
  | 0, _ => Nat.le_refl _
  | n + 1, h => by
    have h1 := g_sum_le (fun i hi => h i (by omega)) (n := n)
    have h2 := h n (by omega)
    rw [g_sum, g_sum]
    omega
theorem g_sum_lt {f g : Nat → Nat} {a : Nat} : ∀ {n : Nat}, (∀ i, i < n → f i ≤ g i) → a < n → f a < g a → g_sum f n < g_sum g n
  | 0, _, ha, _ => absurd ha (Nat.not_lt_zero _)
  | n + 1, h, ha, hl => by
    rw [g_sum, g_sum]
    by_cases e : a = n
    · subst e
      have h1 := g_sum_le (fun i hi => h i (by omega)) (n := a)
      omega
    · have h1 := g_sum_lt (fun i hi => h i (by omega)) (show a < n by omega) hl
      have h2 := h n (by omega)
      omega
theorem g_sum_bound {f : Nat → Nat} {b : Nat} : ∀ {n : Nat}, (∀ i, i < n → f i ≤ b) → g_sum f n ≤ n * b
  | 0, _ => by rw [g_sum]; omega
  | n + 1, h => by
    have h1 := g_sum_bound (fun i hi => h i (by omega)) (n := n)
    have h2 := h n (by omega)
    rw [g_sum, Nat.succ_mul]
    omega
theorem g_sum_rm {f : Nat → Nat} {a : Nat} : ∀ {n : Nat}, a < n → g_sum f n = g_sum (fun i => if i = a then 0 else f i) n + f a
  | 0, h => absurd h (Nat.not_lt_zero _)
  | n + 1, h => by
    rw [g_sum, g_sum]
    by_cases e : a = n
    · subst e
      rw [if_pos rfl, g_sum_congr (g := fun i => if i = a then 0 else f i) (fun i hi => (if_neg (by omega)).symm)]
      omega
    · rw [if_neg (fun h => e h.symm), g_sum_rm (show a < n by omega)]
      omega
/-- the same sum, element by element in another order -/
theorem g_sum_enum {row : Nat → Nat} {n : Nat} : ∀ {m : Nat} {f : Nat → Nat}, (∀ i, i < m → row i < n) → (∀ i j, i < m → j < m → row i = row j → i = j) → (∀ s, s < n → f s ≠ 0 → ∃ i, i < m ∧ row i = s) → g_sum f n = g_sum (fun i => f (row i)) m
  | 0, f, _, _, hs => by
    rw [g_sum]
    apply g_sum_zero
    intro i hi
    apply Classical.byContradiction
    intro h
    obtain ⟨j, hj, -⟩ := hs i hi h
    omega
  | m + 1, f, hin, hj, hs => by
    rw [g_sum, g_sum_rm (hin m (by omega))]
    rw [g_sum_enum (m := m) (f := fun i => if i = row m then 0 else f i) (fun i hi => hin i (by omega)) (fun i j hi hj' e => hj i j (by omega) (by omega) e) (fun s h1 h2 => by
      by_cases e : s = row m
      · rw [if_pos e] at h2
        exact absurd rfl h2
      · rw [if_neg e] at h2
        obtain ⟨i, hi, he⟩ := hs s h1 h2
        refine ⟨i, ?_, he⟩
        have : i ≠ m := fun q => e (by rw [← he, q])
        omega)]
    rw [g_sum_congr (g := fun i => f (row i)) (fun i hi => if_neg (fun e => by
      have := hj i m (by omega) (by omega) e
      omega))]
theorem g_cnt_congr {p q : Nat → Bool} {n : Nat} (h : ∀ i, i < n → p i = q i) : g_cnt p n = g_cnt q n := g_sum_congr (fun i hi => by rw [h i hi])
theorem g_cnt_le (p : Nat → Bool) (n : Nat) : g_cnt p n ≤ n := by
  have h := g_sum_bound (f := fun i => if p i then 1 else 0) (b := 1) (n := n) (fun i _ => by by_cases h : p i <;> simp [h])
  unfold g_cnt
  omega
theorem g_cnt_succ (p : Nat → Bool) (n : Nat) : g_cnt p (n + 1) = g_cnt p n + if p n then 1 else 0 := rfl
theorem g_cnt_lt {p q : Nat → Bool} {n a : Nat} (h : ∀ i, i < n → p i = true → q i = true) (ha : a < n) (h1 : p a = false) (h2 : q a = true) : g_cnt p n < g_cnt q n := by
  refine g_sum_lt (a := a) (fun i hi => ?_) ha ?_
  · by_cases hp : p i = true
    · rw [if_pos hp, if_pos (h i hi hp)]
      exact Nat.le_refl _
    · rw [if_neg hp]
      exact Nat.zero_le _
  · rw [h1, h2]
    decide
theorem g_cnt_pos {p : Nat → Bool} {n a : Nat} (ha : a < n) (h : p a = true) : 0 < g_cnt p n := by
  have h0 : g_cnt (fun _ => false) n = 0 := g_sum_zero (fun i _ => rfl)
  have := g_cnt_lt (p := fun _ => false) (q := p) (a := a) (n := n) (fun i _ h => by cases h) ha rfl h
  omega
theorem g_cnt_ex {p : Nat → Bool} {n : Nat} (h : 0 < g_cnt p n) : ∃ a, a < n ∧ p a = true := by
  apply Classical.byContradiction
  intro hn
  have : g_cnt p n = 0 := g_sum_zero (fun i hi => by
    by_cases hp : p i = true
    · exact absurd ⟨i, hi, hp⟩ hn
    · rw [if_neg hp])
  omega
theorem g_cnt_one {p : Nat → Bool} {n a : Nat} (ha : a < n) (h : p a = true) (hu : ∀ i, i < n → p i = true → i = a) : g_cnt p n = 1 := by
  unfold g_cnt
  rw [g_sum_rm ha, if_pos h, g_sum_zero (fun i hi => by
    by_cases e : i = a
    · rw [if_pos e]
    · rw [if_neg e, if_neg (fun hp => e (hu i hi hp))])]
theorem g_mx_le {f : Nat → Nat} {b : Nat} : ∀ {n : Nat}, (∀ i, i < n → f i ≤ b) → g_mx f n ≤ b
  | 0, _ => Nat.zero_le _
  | n + 1, h => by
    rw [g_mx]
    exact Nat.max_le.mpr ⟨g_mx_le (fun i hi => h i (by omega)), h n (by omega)⟩
theorem g_le_mx {f : Nat → Nat} : ∀ {n i : Nat}, i < n → f i ≤ g_mx f n
  | 0, i, h => absurd h (Nat.not_lt_zero _)
  | n + 1, i, h => by
    rw [g_mx]
    by_cases e : i = n
    · subst e
      exact Nat.le_max_right _ _
    · exact Nat.le_trans (g_le_mx (show i < n by omega)) (Nat.le_max_left _ _)
theorem g_mx_congr {f g : Nat → Nat} {n : Nat} (h : ∀ i, i < n → f i = g i) : g_mx f n = g_mx g n :=
  Nat.le_antisymm (g_mx_le (fun i hi => by rw [h i hi]; exact g_le_mx hi)) (g_mx_le (fun i hi => by rw [← h i hi]; exact g_le_mx hi))
theorem g_mx_enum {f : Nat → Nat} {row : Nat → Nat} {n m : Nat} (hin : ∀ i, i < m → row i < n) (hs : ∀ s, s < n → f s ≠ 0 → ∃ i, i < m ∧ row i = s) : g_mx f n = g_mx (fun i => f (row i)) m := by
  refine Nat.le_antisymm (g_mx_le (fun s hs1 => ?_)) (g_mx_le (fun i hi => g_le_mx (hin i hi)))
  by_cases h : f s = 0
  · rw [h]
    exact Nat.zero_le _
  · obtain ⟨i, hi, rfl⟩ := hs s hs1 h
    exact g_le_mx (f := fun i => f (row i)) hi
theorem g_first_le (p : Nat → Bool) : ∀ n, g_first p n ≤ n
  | 0 => Nat.le_refl _
  | n + 1 => by
    rw [g_first]
    split
    · omega
    · split <;> omega
theorem g_first_p {p : Nat → Bool} : ∀ {n : Nat}, g_first p n < n → p (g_first p n) = true
  | 0, h => absurd h (Nat.not_lt_zero _)
  | n + 1, h => by
    rw [g_first] at h ⊢
    by_cases h1 : g_first p n < n
    · rw [if_pos h1]
      exact g_first_p h1
    · rw [if_neg h1] at h ⊢
      by_cases h2 : p n = true
      · rw [if_pos h2]
        exact h2
      · rw [if_neg h2] at h
        omega
theorem g_first_min {p : Nat → Bool} : ∀ {n i : Nat}, i < n → p i = true → g_first p n ≤ i
  | 0, i, h, _ => absurd h (Nat.not_lt_zero _)
  | n + 1, i, h, hp => by
    rw [g_first]
    by_cases e : i = n
    · subst e
      by_cases h1 : g_first p i < i
      · rw [if_pos h1]
        omega
      · rw [if_neg h1, if_pos hp]
        exact Nat.le_refl _
    · have := g_first_min (show i < n by omega) hp
      rw [if_pos (by omega)]
      exact this
theorem g_first_eq {p : Nat → Bool} {n i : Nat} (hi : i < n) (hp : p i = true) (hu : ∀ j, j < n → p j = true → j = i) : g_first p n = i := by
  have h1 := g_first_min hi hp
  exact hu _ (by omega) (g_first_p (by omega))
theorem g_first_congr {p q : Nat → Bool} : ∀ {n : Nat}, (∀ i, i < n → p i = q i) → g_first p n = g_first q n
  | 0, _ => rfl
  | n + 1, h => by rw [g_first, g_first, g_first_congr (fun i hi => h i (by omega)), h n (by omega)]
theorem g_first_none {p : Nat → Bool} {n : Nat} (h : ∀ i, i < n → p i = false) : g_first p n = n := by
  have h1 := g_first_le p n
  apply Classical.byContradiction
  intro hn
  have h2 := g_first_p (p := p) (n := n) (by omega)
  rw [h _ (by omega)] at h2
  cases h2
/-! ranks -/
def r_bef (A : Nat → Bool) (k : Nat → Nat) (a b : Nat) : Bool := A a && (decide (k b < k a) || decide (k b = k a) && decide (a < b))
def r_rank (A : Nat → Bool) (k : Nat → Nat) (m b : Nat) : Nat := g_cnt (fun a => r_bef A k a b) m
theorem r_bef_iff {A : Nat → Bool} {k : Nat → Nat} {a b : Nat} : r_bef A k a b = true ↔ A a = true ∧ (k b < k a ∨ k b = k a ∧ a < b) := by
  unfold r_bef
  simp
theorem r_lt {A : Nat → Bool} {k : Nat → Nat} {m b : Nat} (hb : b < m) (h : A b = true) : r_rank A k m b < g_cnt A m := by
  refine g_cnt_lt (a := b) (fun i _ hi => (r_bef_iff.mp hi).1) hb ?_ h
  cases e : r_bef A k b b with
  | false => rfl
  | true =>
    have := (r_bef_iff.mp e).2
    omega
theorem r_mono {A : Nat → Bool} {k : Nat → Nat} {m a b : Nat} (ha : a < m) (h : r_bef A k a b = true) : r_rank A k m a < r_rank A k m b := by
  have h0 := r_bef_iff.mp h
  refine g_cnt_lt (a := a) (fun i _ hi => ?_) ha ?_ h
  · have h1 := r_bef_iff.mp hi
    refine r_bef_iff.mpr ⟨h1.1, ?_⟩
    omega
  · cases e : r_bef A k a a with
    | false => rfl
    | true =>
      have := (r_bef_iff.mp e).2
      omega
theorem r_tot {A : Nat → Bool} {k : Nat → Nat} {a b : Nat} (ha : A a = true) (hb : A b = true) (h : a ≠ b) : r_bef A k a b = true ∨ r_bef A k b a = true := by
  rcases Nat.lt_trichotomy (k a) (k b) with h1 | h1 | h1
  · exact Or.inr (r_bef_iff.mpr ⟨hb, Or.inl h1⟩)
  · rcases Nat.lt_or_gt_of_ne h with h2 | h2
    · exact Or.inl (r_bef_iff.mpr ⟨ha, Or.inr ⟨h1.symm, h2⟩⟩)
    · exact Or.inr (r_bef_iff.mpr ⟨hb, Or.inr ⟨h1, h2⟩⟩)
  · exact Or.inl (r_bef_iff.mpr ⟨ha, Or.inl h1⟩)
theorem r_inj {A : Nat → Bool} {k : Nat → Nat} {m a b : Nat} (ha : a < m) (hb : b < m) (h1 : A a = true) (h2 : A b = true) (h : r_rank A k m a = r_rank A k m b) : a = b := by
  apply Classical.byContradiction
  intro hn
  rcases r_tot (k := k) h1 h2 hn with g | g
  · have := r_mono ha g
    omega
  · have := r_mono hb g
    omega
theorem g_dbl {A : Nat → Bool} {f : Nat → Nat} {n : Nat} : ∀ {m : Nat}, (∀ a, a < m → A a = true → f a < n) → g_sum (fun i => g_cnt (fun a => A a && f a == i) m) n = g_cnt A m
  | 0, _ => g_sum_zero (fun i _ => rfl)
  | m + 1, h => by
    have ih := g_dbl (m := m) (fun a ha => h a (by omega))
    rw [g_cnt_succ, ← ih]
    have e : ∀ k, g_sum (fun i => g_cnt (fun a => A a && f a == i) (m + 1)) k = g_sum (fun i => g_cnt (fun a => A a && f a == i) m) k + if A m = true ∧ f m < k then 1 else 0 := by
      intro k
      induction k with
      | zero => rw [g_sum, g_sum, if_neg (by omega)]
      | succ k ihk =>
        rw [g_sum, g_sum, ihk, g_cnt_succ]
        by_cases hA : A m = true
        · simp only [hA, Bool.true_and, beq_iff_eq, true_and]
          repeat' split
          all_goals omega
        · simp only [hA, Bool.false_and, false_and, if_false]
          simp
    rw [e n]
    by_cases hA : A m = true
    · have h1 : A m = true ∧ f m < n := ⟨hA, h m (by omega) hA⟩
      rw [if_pos h1, if_pos hA]
    · have h1 : ¬ (A m = true ∧ f m < n) := fun q => hA q.1
      rw [if_neg h1, if_neg hA]
theorem g_full {c : Nat → Nat} : ∀ {n : Nat}, (∀ i, i < n → c i ≤ 1) → g_sum c n = n → ∀ i, i < n → c i = 1 := by
  intro n h1 h2 i hi
  apply Classical.byContradiction
  intro hn
  have h3 := h1 i hi
  have h4 := g_sum_lt (f := c) (g := fun _ => 1) (a := i) (n := n) h1 hi (by omega)
  have h5 := g_sum_bound (f := fun _ => 1) (b := 1) (n := n) (fun _ _ => Nat.le_refl _)
  omega
theorem r_sur {A : Nat → Bool} {k : Nat → Nat} {m i : Nat} (hi : i < g_cnt A m) : ∃ a, a < m ∧ A a = true ∧ r_rank A k m a = i := by
  have hd := g_dbl (A := A) (f := r_rank A k m) (n := g_cnt A m) (m := m) (fun a ha h => r_lt ha h)
  have h1 : ∀ j, j < g_cnt A m → g_cnt (fun a => A a && r_rank A k m a == j) m ≤ 1 := by
    intro j _
    by_cases hz : 0 < g_cnt (fun a => A a && r_rank A k m a == j) m
    · obtain ⟨a, ha, hp⟩ := g_cnt_ex hz
      have hp' := hp
      simp only [Bool.and_eq_true, beq_iff_eq] at hp'
      rw [g_cnt_one ha hp (fun b hb hq => by
        simp only [Bool.and_eq_true, beq_iff_eq] at hq
        exact r_inj hb ha hq.1 hp'.1 (hq.2.trans hp'.2.symm))]
      exact Nat.le_refl _
    · omega
  have h2 := g_full h1 hd i hi
  obtain ⟨a, ha, hp⟩ := g_cnt_ex (p := fun a => A a && r_rank A k m a == i) (n := m) (by omega)
  simp only [Bool.and_eq_true, beq_iff_eq] at hp
  exact ⟨a, ha, hp.1, hp.2⟩
