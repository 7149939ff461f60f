/-! words, numbers and semicolons of a text -/
def t_c (b : Nat → Int32) (n p : Nat) : Nat := if n ≤ p then 0 else if b p = 32 ∨ b p = 10 then 5 else if 48 ≤ (b p).toInt ∧ (b p).toInt ≤ 57 then 2 else if 97 ≤ (b p).toInt ∧ (b p).toInt ≤ 122 then 1 else if b p = 59 then 3 else 4
def t_k (b : Nat → Int32) (n c : Nat) : Nat → Nat → Nat
  | 0, p => p
  | k + 1, p => if t_c b n p = c then t_k b n c k (p + 1) else p
def t_run (b : Nat → Int32) (n c p : Nat) : Nat := t_k b n c (n - p) p
def t_beg (b : Nat → Int32) (n p : Nat) : Nat := t_run b n 5 p
def t_end (b : Nat → Int32) (n p : Nat) : Nat := if t_c b n (t_beg b n p) = 0 then t_beg b n p else if t_c b n (t_beg b n p) = 2 then t_run b n 2 (t_beg b n p) else if t_c b n (t_beg b n p) = 1 then t_run b n 1 (t_beg b n p) else t_beg b n p + 1
def t_kd (b : Nat → Int32) (n p : Nat) : Nat := if t_c b n (t_beg b n p) = 2 then (if 5 < t_end b n p - t_beg b n p then 4 else 2) else if t_c b n (t_beg b n p) = 1 then (if 8 < t_end b n p - t_beg b n p then 4 else 1) else t_c b n (t_beg b n p)
def t_dig (b : Nat → Int32) (s : Nat) : Nat → Nat
  | 0 => 0
  | k + 1 => t_dig b s k * 10 + ((b (s + k)).toInt - 48).toNat
def t_pk (b : Nat → Int32) (s : Nat) : Nat → Nat
  | 0 => 0
  | k + 1 => t_pk b s k * 32 + ((b (s + k)).toInt - 96).toNat
section TK
variable {b : Nat → Int32} {n p c : Nat}
theorem t_c_lt (h : t_c b n p ≠ 0) : p < n := by
  apply Classical.byContradiction
  intro g
  apply h
  unfold t_c
  rw [if_pos (by omega)]
theorem t_c_0 (h : n ≤ p) : t_c b n p = 0 := by
  unfold t_c
  rw [if_pos h]
theorem t_c_5 (h : p < n) (h2 : b p = 32 ∨ b p = 10) : t_c b n p = 5 := by
  unfold t_c
  rw [if_neg (by omega), if_pos h2]
theorem t_c_2 (h : p < n) : t_c b n p = 2 ↔ 48 ≤ (b p).toInt ∧ (b p).toInt ≤ 57 := by
  unfold t_c
  rw [if_neg (by omega)]
  constructor
  · intro g
    by_cases c1 : b p = 32 ∨ b p = 10
    · rw [if_pos c1] at g
      omega
    · rw [if_neg c1] at g
      by_cases c2 : 48 ≤ (b p).toInt ∧ (b p).toInt ≤ 57
      · exact c2
      · rw [if_neg c2] at g
        repeat' split at g
        all_goals omega
  · intro g
    rw [if_neg (fun c1 => by rcases c1 with c1 | c1 <;> (rw [c1] at g; revert g; decide)), if_pos g]
theorem t_c_1 (h : p < n) : t_c b n p = 1 ↔ 97 ≤ (b p).toInt ∧ (b p).toInt ≤ 122 := by
  unfold t_c
  rw [if_neg (by omega)]
  constructor
  · intro g
    by_cases c1 : b p = 32 ∨ b p = 10
    · rw [if_pos c1] at g
      omega
    · rw [if_neg c1] at g
      by_cases c2 : 48 ≤ (b p).toInt ∧ (b p).toInt ≤ 57
      · rw [if_pos c2] at g
        omega
      · rw [if_neg c2] at g
        by_cases c3 : 97 ≤ (b p).toInt ∧ (b p).toInt ≤ 122
        · exact c3
        · rw [if_neg c3] at g
          split at g
          all_goals omega
  · intro g
    rw [if_neg (fun c1 => by rcases c1 with c1 | c1 <;> (rw [c1] at g; revert g; decide)), if_neg (by omega), if_pos g]
theorem t_c_s (h : p < n) (h5 : ¬ (b p = 32 ∨ b p = 10)) (h2 : t_c b n p ≠ 2) (h1 : t_c b n p ≠ 1) : (b p = 59 → t_c b n p = 3) ∧ (b p ≠ 59 → t_c b n p = 4) := by
  have a2 := fun g => h2 ((t_c_2 h).mpr g)
  have a1 := fun g => h1 ((t_c_1 h).mpr g)
  unfold t_c
  rw [if_neg (by omega), if_neg h5, if_neg a2, if_neg a1]
  exact ⟨fun g => if_pos g, fun g => if_neg g⟩
theorem t_c_n5 (h : p < n) (h5 : ¬ (b p = 32 ∨ b p = 10)) : t_c b n p ≠ 5 := by
  unfold t_c
  rw [if_neg (by omega), if_neg h5]
  repeat' split
  all_goals omega
theorem t_c_n0 (h : p < n) : t_c b n p ≠ 0 := by
  unfold t_c
  rw [if_neg (by omega)]
  repeat' split
  all_goals omega
theorem t_run_s (hc : c ≠ 0) (h : t_c b n p = c) : t_run b n c p = t_run b n c (p + 1) := by
  have hp := t_c_lt (b := b) (n := n) (p := p) (by omega)
  unfold t_run
  rw [show n - p = (n - (p + 1)) + 1 by omega, t_k, if_pos h]
theorem t_run_e (h : t_c b n p ≠ c) : t_run b n c p = p := by
  unfold t_run
  cases n - p with
  | zero => rfl
  | succ k => rw [t_k, if_neg h]
theorem t_k_le (b : Nat → Int32) (n c : Nat) : ∀ k p, p ≤ t_k b n c k p ∧ t_k b n c k p ≤ p + k
  | 0, p => ⟨Nat.le_refl _, Nat.le_refl _⟩
  | k + 1, p => by
    rw [t_k]
    split
    · have := t_k_le b n c k (p + 1)
      omega
    · omega
theorem t_run_b (b : Nat → Int32) (n c : Nat) {p : Nat} (hp : p ≤ n) : p ≤ t_run b n c p ∧ t_run b n c p ≤ n := by
  have := t_k_le b n c (n - p) p
  unfold t_run
  omega
theorem t_end_b (b : Nat → Int32) (n : Nat) {p : Nat} (hp : p ≤ n) : p ≤ t_beg b n p ∧ t_beg b n p ≤ t_end b n p ∧ t_end b n p ≤ n ∧ (t_c b n (t_beg b n p) ≠ 0 → t_beg b n p < t_end b n p) := by
  have h1 := t_run_b b n 5 hp
  unfold t_end
  have hb : t_beg b n p = t_run b n 5 p := rfl
  by_cases c0 : t_c b n (t_beg b n p) = 0
  · rw [if_pos c0]
    omega
  · have hl := t_c_lt c0
    rw [if_neg c0]
    by_cases c2 : t_c b n (t_beg b n p) = 2
    · rw [if_pos c2]
      have h2 := t_run_s (by omega) c2
      have h3 := t_run_b b n 2 (p := t_beg b n p + 1) (by omega)
      omega
    · rw [if_neg c2]
      by_cases c1 : t_c b n (t_beg b n p) = 1
      · rw [if_pos c1]
        have h2 := t_run_s (by omega) c1
        have h3 := t_run_b b n 1 (p := t_beg b n p + 1) (by omega)
        omega
      · rw [if_neg c1]
        omega
theorem t_dig_b (b : Nat → Int32) (s : Nat) : ∀ k, (∀ i, i < k → (b (s + i)).toInt ≤ 57) → t_dig b s k < 10 ^ k
  | 0, _ => Nat.zero_lt_one
  | k + 1, h => by
    have h1 := t_dig_b b s k (fun i hi => h i (by omega))
    have h2 := h k (by omega)
    rw [t_dig, Nat.pow_succ]
    omega
theorem t_pk_b (b : Nat → Int32) (s : Nat) : ∀ k, (∀ i, i < k → (b (s + i)).toInt ≤ 122) → t_pk b s k < 32 ^ k
  | 0, _ => Nat.zero_lt_one
  | k + 1, h => by
    have h1 := t_pk_b b s k (fun i hi => h i (by omega))
    have h2 := h k (by omega)
    rw [t_pk, Nat.pow_succ]
    omega
end TK
