/-! the row of a road's stops, in order -/
def g_row (N : g_F) (r s : Nat) : Bool := decide ((s / 10 < N 0 1 ∧ s % 10 < N 8 (s / 10)) ∧ N 9 s = r)
def g_P (N : g_F) (s : Nat) : Nat := g_bg N (N 9 s) + g_cnt (g_row N (N 9 s)) s
def g_W (N : g_F) (i : Nat) : Nat := g_first (fun s => g_row N (N 9 s) s && decide (g_P N s = i)) 120
theorem g_cnt_m {A : Nat → Bool} {a : Nat} : ∀ k, g_cnt A a ≤ g_cnt A (a + k)
  | 0 => Nat.le_refl _
  | k + 1 => by
    have := g_cnt_m (A := A) (a := a) k
    rw [← Nat.add_assoc, g_cnt_succ]
    omega
theorem g_cnt_up {A : Nat → Bool} {s m : Nat} (h : s < m) (hs : A s = true) : g_cnt A s < g_cnt A m := by
  have h1 := g_cnt_m (A := A) (a := s + 1) (m - (s + 1))
  rw [show s + 1 + (m - (s + 1)) = m by omega, g_cnt_succ, if_pos hs] at h1
  omega
theorem g_cnt_sur {A : Nat → Bool} : ∀ {m i : Nat}, i < g_cnt A m → ∃ s, s < m ∧ A s = true ∧ g_cnt A s = i
  | 0, i, h => absurd h (Nat.not_lt_zero _)
  | m + 1, i, h => by
    rw [g_cnt_succ] at h
    by_cases c : i < g_cnt A m
    · obtain ⟨s, h1, h2, h3⟩ := g_cnt_sur c
      exact ⟨s, by omega, h2, h3⟩
    · by_cases hA : A m = true
      · rw [if_pos hA] at h
        exact ⟨m, by omega, hA, by omega⟩
      · rw [if_neg hA] at h
        omega
theorem g_row_iff {N : g_F} {r s : Nat} : g_row N r s = true ↔ g_is N s ∧ N 9 s = r := by
  unfold g_row
  rw [decide_eq_true_iff]
  exact Iff.rfl
theorem g_bg_s (N : g_F) (r : Nat) : g_bg N (r + 1) = g_bg N r + g_cnt (g_row N r) 120 := by
  have key : ∀ k, g_cnt (fun s => decide ((s / 10 < N 0 1 ∧ s % 10 < N 8 (s / 10)) ∧ N 9 s < r + 1)) k = g_cnt (fun s => decide ((s / 10 < N 0 1 ∧ s % 10 < N 8 (s / 10)) ∧ N 9 s < r)) k + g_cnt (g_row N r) k := by
    intro k
    induction k with
    | zero => rfl
    | succ k ih =>
      rw [g_cnt_succ, g_cnt_succ, g_cnt_succ, ih]
      unfold g_row
      simp only [decide_eq_true_eq]
      by_cases z : k / 10 < N 0 1 ∧ k % 10 < N 8 (k / 10)
      · by_cases y : N 9 k < r
        · rw [if_pos ⟨z, by omega⟩, if_pos ⟨z, y⟩, if_neg (fun g => by have := g.2; omega)]
          omega
        · by_cases y2 : N 9 k = r
          · rw [if_pos ⟨z, by omega⟩, if_neg (fun g => y g.2), if_pos ⟨z, y2⟩]
            omega
          · rw [if_neg (fun g => by have := g.2; omega), if_neg (fun g => y g.2), if_neg (fun g => y2 g.2)]
            omega
      · rw [if_neg (fun g => z g.1), if_neg (fun g => z g.1), if_neg (fun g => z g.1)]
        omega
  exact key 120
theorem g_P_in {N : g_F} (hN : g_WN N) {s : Nat} (hs : g_is N s) : g_bg N (N 9 s) ≤ g_P N s ∧ g_P N s < g_bg N (N 9 s + 1) := by
  have h1 := g_cnt_up (A := g_row N (N 9 s)) (g_is_lt hN hs) (g_row_iff.mpr ⟨hs, rfl⟩)
  rw [g_bg_s]
  unfold g_P
  omega
theorem g_P_inj {N : g_F} (hN : g_WN N) {s s' : Nat} (hs : g_is N s) (hs' : g_is N s') (h : g_P N s = g_P N s') : s = s' := by
  have h1 := g_P_in hN hs
  have h2 := g_P_in hN hs'
  have e : N 9 s = N 9 s' := by
    rcases Nat.lt_trichotomy (N 9 s) (N 9 s') with g | g | g
    · have := g_bg_mono N (show N 9 s + 1 ≤ N 9 s' by omega)
      omega
    · exact g
    · have := g_bg_mono N (show N 9 s' + 1 ≤ N 9 s by omega)
      omega
  unfold g_P at h
  rw [e] at h
  rcases Nat.lt_trichotomy s s' with g | g | g
  · have := g_cnt_up (A := g_row N (N 9 s')) g (g_row_iff.mpr ⟨hs, e⟩)
    omega
  · exact g
  · have := g_cnt_up (A := g_row N (N 9 s')) g (g_row_iff.mpr ⟨hs', rfl⟩)
    omega
theorem g_W_P {N : g_F} (hN : g_WN N) {s : Nat} (hs : g_is N s) : g_W N (g_P N s) = s := by
  unfold g_W
  refine g_first_eq (g_is_lt hN hs) ?_ (fun j hj h => ?_)
  · rw [g_row_iff.mpr ⟨hs, rfl⟩, decide_eq_true rfl]
    rfl
  · rw [Bool.and_eq_true, g_row_iff, decide_eq_true_iff] at h
    exact g_P_inj hN h.1.1 hs h.2
theorem g_P_sur {N : g_F} {r i : Nat} (h1 : g_bg N r ≤ i) (h2 : i < g_bg N (r + 1)) : ∃ s, g_is N s ∧ N 9 s = r ∧ g_P N s = i := by
  rw [g_bg_s] at h2
  obtain ⟨s, g1, g2, g3⟩ := g_cnt_sur (A := g_row N r) (m := 120) (i := i - g_bg N r) (by omega)
  obtain ⟨g4, g5⟩ := g_row_iff.mp g2
  refine ⟨s, g4, g5, ?_⟩
  unfold g_P
  rw [g5, g3]
  omega
theorem g_W_E {N : g_F} (hN : g_WN N) : g_E N (g_W N) := by
  refine ⟨fun r i hr h1 h2 => ?_, fun s hs => ⟨g_P N s, (g_P_in hN hs).1, (g_P_in hN hs).2, g_W_P hN hs⟩, fun r i j hr h1 h2 h3 h4 h => ?_⟩
  · obtain ⟨s, g1, g2, g3⟩ := g_P_sur h1 h2
    rw [← g3, g_W_P hN g1]
    exact ⟨g1, g2⟩
  · obtain ⟨s, g1, g2, g3⟩ := g_P_sur h1 h2
    obtain ⟨s', k1, k2, k3⟩ := g_P_sur h3 h4
    rw [← g3, ← k3, g_W_P hN g1, g_W_P hN k1] at h
    rw [← g3, ← k3, h]
