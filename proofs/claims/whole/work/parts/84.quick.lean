/-! the shortest ways: passes over the roads until nothing changes -/
def g_rx (N : g_F) (d : Nat → Nat) (r : Nat) : Nat → Nat := if d (N 1 r) + g_min N r (N 4 r) < d (N 2 r) then fun x => if x = N 2 r then d (N 1 r) + g_min N r (N 4 r) else d x else d
def g_dk (N : g_F) (d : Nat → Nat) : Nat → Nat → Nat
  | 0 => d
  | r + 1 => g_rx N (g_dk N d r) r
def g_di (N : g_F) (a : Nat) : Nat → Nat → Nat
  | 0 => fun x => if x = a then 0 else 1000000
  | j + 1 => g_dk N (g_di N a j) (N 0 0)
theorem g_rx_le (N : g_F) (d : Nat → Nat) (r x : Nat) : g_rx N d r x ≤ d x := by
  unfold g_rx
  by_cases h : d (N 1 r) + g_min N r (N 4 r) < d (N 2 r)
  · rw [if_pos h]
    show (if x = N 2 r then d (N 1 r) + g_min N r (N 4 r) else d x) ≤ d x
    by_cases e : x = N 2 r
    · rw [if_pos e, e]
      omega
    · rw [if_neg e]
      exact Nat.le_refl _
  · rw [if_neg h]
    exact Nat.le_refl _
theorem g_rx_to (N : g_F) (d : Nat → Nat) (r : Nat) : g_rx N d r (N 2 r) ≤ d (N 1 r) + g_min N r (N 4 r) := by
  unfold g_rx
  by_cases h : d (N 1 r) + g_min N r (N 4 r) < d (N 2 r)
  · rw [if_pos h]
    show (if N 2 r = N 2 r then d (N 1 r) + g_min N r (N 4 r) else d (N 2 r)) ≤ _
    rw [if_pos rfl]
    exact Nat.le_refl _
  · rw [if_neg h]
    omega
theorem g_dk_le (N : g_F) (d : Nat → Nat) (x : Nat) : ∀ n, g_dk N d n x ≤ d x
  | 0 => Nat.le_refl _
  | n + 1 => Nat.le_trans (g_rx_le N _ n x) (g_dk_le N d x n)
theorem g_dk_to {N : g_F} {d : Nat → Nat} : ∀ {n r : Nat}, r < n → g_dk N d n (N 2 r) ≤ d (N 1 r) + g_min N r (N 4 r)
  | 0, r, h => absurd h (Nat.not_lt_zero _)
  | n + 1, r, h => by
    rw [g_dk]
    by_cases e : r = n
    · subst e
      exact Nat.le_trans (g_rx_to N _ r) (Nat.add_le_add_right (g_dk_le N d _ r) _)
    · exact Nat.le_trans (g_rx_le N _ n _) (g_dk_to (show r < n by omega))
theorem g_di_mono (N : g_F) (a x : Nat) : ∀ k j, g_di N a (j + k) x ≤ g_di N a j x
  | 0, j => Nat.le_refl _
  | k + 1, j => Nat.le_trans (g_dk_le N _ x _) (g_di_mono N a x k j)
/-- a value below the start's comes along a road -/
def g_pre (N : g_F) (d0 d : Nat → Nat) : Prop := ∀ x, d x = d0 x ∨ ∃ r, r < N 0 0 ∧ N 2 r = x ∧ d (N 1 r) + g_min N r (N 4 r) ≤ d x
theorem g_pre.rs {N : g_F} {d0 d : Nat → Nat} (h : g_pre N d0 d) {r : Nat} (hr : r < N 0 0) : g_pre N d0 (g_rx N d r) := by
  intro x
  by_cases c : d (N 1 r) + g_min N r (N 4 r) < d (N 2 r)
  · by_cases e : x = N 2 r
    · refine Or.inr ⟨r, hr, e.symm, ?_⟩
      have h1 := g_rx_le N d r (N 1 r)
      have h2 : g_rx N d r x = d (N 1 r) + g_min N r (N 4 r) := by
        unfold g_rx
        rw [if_pos c]
        exact if_pos e
      omega
    · have h2 : g_rx N d r x = d x := by
        unfold g_rx
        rw [if_pos c]
        exact if_neg e
      rw [h2]
      rcases h x with g | ⟨r', h3, h4, h5⟩
      · exact Or.inl g
      · exact Or.inr ⟨r', h3, h4, Nat.le_trans (Nat.add_le_add_right (g_rx_le N d r _) _) h5⟩
  · have e : g_rx N d r = d := by
      unfold g_rx
      exact if_neg c
    rw [e]
    exact h x
theorem g_pre.dk {N : g_F} {d0 d : Nat → Nat} (h : g_pre N d0 d) : ∀ n, n ≤ N 0 0 → g_pre N d0 (g_dk N d n)
  | 0, _ => h
  | n + 1, hn => (g_pre.dk h n (by omega)).rs (by omega)
theorem g_pre_di (N : g_F) (a : Nat) : ∀ j, g_pre N (g_di N a 0) (g_di N a j)
  | 0 => fun _ => Or.inl rfl
  | j + 1 => (g_pre_di N a j).dk _ (Nat.le_refl _)
theorem g_dk_alt {N : g_F} (hN : g_WN N) {d : Nat → Nat} : ∀ n, n ≤ N 0 0 → g_dk N d n = d ∨ g_sum (g_dk N d n) 20 < g_sum d 20
  | 0, _ => Or.inl rfl
  | n + 1, hn => by
    rw [g_dk]
    by_cases c : (g_dk N d n) (N 1 n) + g_min N n (N 4 n) < (g_dk N d n) (N 2 n)
    · refine Or.inr ?_
      have h1 : g_sum (g_rx N (g_dk N d n) n) 20 < g_sum (g_dk N d n) 20 := by
        refine g_sum_lt (a := N 2 n) (fun i _ => g_rx_le N _ n i) (hN.2.1 n (by omega)).2.1 ?_
        have := g_rx_to N (g_dk N d n) n
        omega
      have h2 : g_sum (g_dk N d n) 20 ≤ g_sum d 20 := g_sum_le (fun i _ => g_dk_le N d i n)
      omega
    · have e : g_rx N (g_dk N d n) n = g_dk N d n := by
        unfold g_rx
        exact if_neg c
      rw [e]
      exact g_dk_alt hN n (by omega)
theorem g_least {P : Nat → Prop} {F : Nat → Nat} : ∀ n, (∃ x, P x ∧ F x ≤ n) → ∃ x, P x ∧ ∀ y, P y → F x ≤ F y
  | 0, ⟨x, h1, h2⟩ => ⟨x, h1, fun y _ => by omega⟩
  | n + 1, ⟨x, h1, h2⟩ => by
    by_cases c : ∃ x, P x ∧ F x ≤ n
    · exact g_least n c
    · refine ⟨x, h1, fun y hy => ?_⟩
      apply Classical.byContradiction
      intro g
      exact c ⟨y, hy, by omega⟩
theorem g_di_stay {N : g_F} {a J : Nat} (h : g_di N a (J + 1) = g_di N a J) : ∀ k, g_di N a (J + k) = g_di N a J
  | 0 => rfl
  | k + 1 => by
    show g_dk N (g_di N a (J + k)) (N 0 0) = _
    rw [g_di_stay h k]
    exact h
theorem g_di_low {N : g_F} {a J : Nat} (h : g_di N a (J + 1) = g_di N a J) (j x : Nat) : g_di N a J x ≤ g_di N a j x := by
  by_cases c : j ≤ J
  · have := g_di_mono N a x (J - j) j
    rw [show j + (J - j) = J by omega] at this
    exact this
  · have := g_di_stay h (j - J)
    rw [show J + (j - J) = j by omega] at this
    rw [this]
    exact Nat.le_refl _
theorem g_di_cnt {N : g_F} (hN : g_WN N) {a J : Nat} (ha : a < 20) (h : g_di N a (J + 1) = g_di N a J) : ∀ j, j + 1 ≤ g_cnt (fun x => decide (g_di N a j x = g_di N a J x)) 20 ∨ ∀ x, x < 20 → g_di N a j x = g_di N a J x
  | 0 => by
    refine Or.inl (g_cnt_pos (a := a) ha (decide_eq_true ?_))
    have h1 := g_di_low h 0 a
    have h2 : g_di N a 0 a = 0 := if_pos rfl
    omega
  | j + 1 => by
    have hmono : ∀ x, g_di N a j x = g_di N a J x → g_di N a (j + 1) x = g_di N a J x := fun x e => by
      have h1 := g_di_low h (j + 1) x
      have h2 := g_di_mono N a x 1 j
      omega
    by_cases call : ∀ x, x < 20 → g_di N a j x = g_di N a J x
    · exact Or.inr (fun x hx => hmono x (call x hx))
    · rcases g_di_cnt hN ha h j with hc | hc
      · refine Or.inl ?_
        have hex : ∃ x, (x < 20 ∧ g_di N a j x ≠ g_di N a J x) := by
          apply Classical.byContradiction
          intro g
          refine call (fun x hx => ?_)
          apply Classical.byContradiction
          intro g2
          exact g ⟨x, hx, g2⟩
        obtain ⟨x0, hx0⟩ := hex
        obtain ⟨x, ⟨hx, hne⟩, hmin⟩ := g_least (P := fun x => x < 20 ∧ g_di N a j x ≠ g_di N a J x) (F := g_di N a J) _ ⟨x0, hx0, Nat.le_refl _⟩
        have hlow := g_di_low h j x
        have h0 : g_di N a j x ≤ g_di N a 0 x := by
          have := g_di_mono N a x j 0
          rw [Nat.zero_add] at this
          exact this
        rcases g_pre_di N a J x with g | ⟨r, r1, r2, r3⟩
        · omega
        · have hw := (hN.2.1 r r1)
          have hmb := g_min_b hN r1 hw.2.2.2.2.1 hw.2.2.2.2.2
          have hu : g_di N a j (N 1 r) = g_di N a J (N 1 r) := by
            apply Classical.byContradiction
            intro g
            have := hmin (N 1 r) ⟨hw.1, g⟩
            omega
          have hto := g_dk_to (N := N) (d := g_di N a j) r1
          rw [r2] at hto
          have hnew : g_di N a (j + 1) x = g_di N a J x := by
            have h1 := g_di_low h (j + 1) x
            have h2 : g_di N a (j + 1) x ≤ g_di N a j (N 1 r) + g_min N r (N 4 r) := hto
            omega
          have := g_cnt_lt (p := fun x => decide (g_di N a j x = g_di N a J x)) (q := fun x => decide (g_di N a (j + 1) x = g_di N a J x)) (a := x) (n := 20) (fun i _ hi => decide_eq_true (hmono i (of_decide_eq_true hi))) hx (decide_eq_false hne) (decide_eq_true hnew)
          omega
      · exact absurd hc call
theorem g_di_all {N : g_F} (hN : g_WN N) {a J : Nat} (ha : a < 20) (h : g_di N a (J + 1) = g_di N a J) {j : Nat} (hj : 19 ≤ j) {x : Nat} (hx : x < 20) : g_di N a j x = g_di N a J x := by
  rcases g_di_cnt hN ha h j with hc | hc
  · apply Classical.byContradiction
    intro g
    have h1 := g_cnt_lt (p := fun x => decide (g_di N a j x = g_di N a J x)) (q := fun _ => true) (a := x) (n := 20) (fun _ _ _ => rfl) hx (decide_eq_false g) rfl
    have h2 := g_cnt_le (fun _ => true) 20
    omega
  · exact hc x hx
theorem g_di_ex {N : g_F} (hN : g_WN N) (a : Nat) : ∃ J, g_di N a (J + 1) = g_di N a J := by
  have key : ∀ n j, g_sum (g_di N a j) 20 ≤ n → ∃ J, g_di N a (J + 1) = g_di N a J := by
    intro n
    induction n with
    | zero =>
      intro j hj
      rcases g_dk_alt hN (d := g_di N a j) (N 0 0) (Nat.le_refl _) with e | e
      · exact ⟨j, e⟩
      · omega
    | succ n ih =>
      intro j hj
      rcases g_dk_alt hN (d := g_di N a j) (N 0 0) (Nat.le_refl _) with e | e
      · exact ⟨j, e⟩
      · exact ih (j + 1) (by show g_sum (g_dk N (g_di N a j) (N 0 0)) 20 ≤ n; omega)
  exact key _ 0 (Nat.le_refl _)
theorem g_di_end {N : g_F} (hN : g_WN N) {a : Nat} (ha : a < 20) {j k : Nat} (hj : 19 ≤ j) (hk : 19 ≤ k) {x : Nat} (hx : x < 20) : g_di N a j x = g_di N a k x := by
  obtain ⟨J, h⟩ := g_di_ex hN a
  rw [g_di_all hN ha h hj hx, g_di_all hN ha h hk hx]
/-- none, or small -/
def g_bd (d : Nat → Nat) (b : Nat) : Prop := ∀ x, d x = 1000000 ∨ d x ≤ b
theorem g_bd.rs {N : g_F} (hN : g_WN N) {d : Nat → Nat} {b r : Nat} (h : g_bd d b) (hb : b ≤ 400000) (hr : r < N 0 0) : g_bd (g_rx N d r) (b + 451) := by
  intro x
  have hw := (hN.2.1 r hr)
  have hmb := g_min_b hN hr hw.2.2.2.2.1 hw.2.2.2.2.2
  unfold g_rx
  by_cases c : d (N 1 r) + g_min N r (N 4 r) < d (N 2 r)
  · rw [if_pos c]
    show (if x = N 2 r then d (N 1 r) + g_min N r (N 4 r) else d x) = _ ∨ (if x = N 2 r then d (N 1 r) + g_min N r (N 4 r) else d x) ≤ _
    by_cases e : x = N 2 r
    · rw [if_pos e]
      have h1 := h (N 1 r)
      have h2 := h (N 2 r)
      omega
    · rw [if_neg e]
      have := h x
      omega
  · rw [if_neg c]
    have := h x
    omega
theorem g_bd_dk {N : g_F} (hN : g_WN N) {d : Nat → Nat} {b : Nat} (h : g_bd d b) (hb : b ≤ 380000) : ∀ n, n ≤ N 0 0 → g_bd (g_dk N d n) (b + 451 * n)
  | 0, _ => h
  | n + 1, hn => by
    have h30 := hN.1.1
    have := (g_bd_dk hN h hb n (by omega)).rs hN (by omega) (show n < N 0 0 by omega)
    rw [show b + 451 * (n + 1) = b + 451 * n + 451 by omega]
    exact this
theorem g_bd_di {N : g_F} (hN : g_WN N) (a : Nat) : ∀ j, j ≤ 22 → g_bd (g_di N a j) (13530 * j)
  | 0, _ => fun x => by
    show (if x = a then 0 else 1000000) = 1000000 ∨ (if x = a then 0 else 1000000) ≤ 13530 * 0
    by_cases e : x = a
    · rw [if_pos e]
      omega
    · rw [if_neg e]
      exact Or.inl rfl
  | j + 1, hj => fun x => by
    have h30 := hN.1.1
    have := g_bd_dk hN (g_bd_di hN a j (by omega)) (by omega) (N 0 0) (Nat.le_refl _) x
    show g_dk N (g_di N a j) (N 0 0) x = _ ∨ g_dk N (g_di N a j) (N 0 0) x ≤ _
    omega
