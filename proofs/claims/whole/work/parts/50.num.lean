/-! the pure side: small ints, cells, loops -/
theorem nI_mul (a b : Nat) : nI a * nI b = nI (a * b) := (Int32.ofNat_mul a b).symm
theorem nI_sub {a b : Nat} (h : b ≤ a) : nI a - nI b = nI (a - b) := by
  have e : nI (a - b) + nI b = nI a := by rw [nI_add, Nat.sub_add_cancel h]
  rw [← e]
  exact Int32.add_sub_cancel _ _
theorem nI_div {a b : Nat} (ha : a < 2 ^ 31) (hb : b < 2 ^ 31) (h0 : 0 < b) : nI a / nI b = nI (a / b) := by
  apply Int32.toInt_inj.mp
  have hd : a / b ≤ a := Nat.div_le_self a b
  rw [Int32.toInt_div, nI_toInt ha, nI_toInt hb, nI_toInt (by omega)]
  rw [show ((a : Int).tdiv (b : Int)) = ((a / b : Nat) : Int) from by simp [Int.tdiv]]
  generalize a / b = q at hd
  exact Int.bmod_eq_of_le (by omega) (by omega)
theorem nI_max {a b : Nat} (ha : a < 2 ^ 31) (hb : b < 2 ^ 31) : (if nI a < nI b then nI b else nI a) = nI (max a b) := by
  by_cases h : a < b
  · rw [if_pos ((nI_ltI ha hb).mpr h), Nat.max_eq_right (Nat.le_of_lt h)]
  · rw [if_neg (fun g => h ((nI_ltI ha hb).mp g)), Nat.max_eq_left (by omega)]
theorem nI_min {a b : Nat} (ha : a < 2 ^ 31) (hb : b < 2 ^ 31) : (if nI b < nI a then nI b else nI a) = nI (min a b) := by
  by_cases h : b < a
  · rw [if_pos ((nI_ltI hb ha).mpr h), Nat.min_eq_right (Nat.le_of_lt h)]
  · rw [if_neg (fun g => h ((nI_ltI hb ha).mp g)), Nat.min_eq_left (by omega)]
/-- b is small -/
def sm (b : Nat) : Prop := b < 1000000000
theorem sm31 {b : Nat} (h : b < 1000000000) : b < 2 ^ 31 := by omega
theorem i_le {a b : Nat} {P R : Prop} (ha : a < 1000000000) (hb : b < 1000000000) (h1 : a ≤ b → P) (h2 : b < a → R) : (nI a ≤ nI b → P) ∧ (¬ nI a ≤ nI b → R) :=
  ⟨fun h => h1 ((nI_leI (sm31 ha) (sm31 hb)).mp h), fun h => h2 (Nat.not_le.mp (fun g => h ((nI_leI (sm31 ha) (sm31 hb)).mpr g)))⟩
theorem i_lt {a b : Nat} {P R : Prop} (ha : a < 1000000000) (hb : b < 1000000000) (h1 : a < b → P) (h2 : b ≤ a → R) : (nI a < nI b → P) ∧ (¬ nI a < nI b → R) :=
  ⟨fun h => h1 ((nI_ltI (sm31 ha) (sm31 hb)).mp h), fun h => h2 (Nat.not_lt.mp (fun g => h ((nI_ltI (sm31 ha) (sm31 hb)).mpr g)))⟩
theorem i_eq {a b : Nat} {P R : Prop} (ha : a < 1000000000) (hb : b < 1000000000) (h1 : a = b → P) (h2 : a ≠ b → R) : (nI a = nI b → P) ∧ (¬ nI a = nI b → R) :=
  ⟨fun h => h1 ((nI_eq (sm31 ha) (sm31 hb)).mp h), fun h => h2 (fun g => h (by rw [g]))⟩
theorem i_ne {a b : Nat} {P R : Prop} (ha : a < 1000000000) (hb : b < 1000000000) (h1 : a ≠ b → R) (h2 : a = b → P) : (¬ nI a = nI b → R) ∧ (nI a = nI b → P) := (i_eq ha hb h2 h1).symm
theorem nI_neg {a : Nat} (ha : a < 1000000000) : ¬ nI a < 0 := nI_pos (sm31 ha)
/-- ¬ a < 0 is what counts -/
theorem i_neg {a : Nat} {P R : Prop} (ha : a < 1000000000) (h : R) : (nI a < 0 → P) ∧ (¬ nI a < 0 → R) := ⟨fun g => absurd g (nI_neg ha), fun _ => h⟩
theorem nI_m1 {a : Nat} (ha : a < 1000000000) : ¬ nI a = -1 := fun h => by
  have e := congrArg Int32.toInt h
  rw [nI_toInt (sm31 ha), show (-1 : Int32).toInt = -1 from by decide] at e
  omega
theorem i_m1 {a : Nat} {P R : Prop} (ha : a < 1000000000) (h : R) : (nI a = -1 → P) ∧ (¬ nI a = -1 → R) := ⟨fun g => absurd g (nI_m1 ha), fun _ => h⟩
theorem i_m1' {a : Nat} {P R : Prop} (ha : a < 1000000000) (h : R) : (¬ nI a = -1 → R) ∧ (nI a = -1 → P) := ⟨fun _ => h, fun g => absurd g (nI_m1 ha)⟩
theorem i_one {P R : Prop} (h : R) : (¬ (1 : Int32) = 0 → R) ∧ ((1 : Int32) = 0 → P) := ⟨fun _ => h, fun g => absurd g (by decide)⟩
theorem i_one' {P R : Prop} (h : R) : ((1 : Int32) = 0 → P) ∧ (¬ (1 : Int32) = 0 → R) := ⟨fun g => absurd g (by decide), fun _ => h⟩
theorem i_zer {P R : Prop} (h : P) : ((0 : Int32) = 0 → P) ∧ (¬ (0 : Int32) = 0 → R) := ⟨fun _ => h, fun g => absurd rfl g⟩
theorem i_zer' {P R : Prop} (h : P) : (¬ (0 : Int32) = 0 → R) ∧ ((0 : Int32) = 0 → P) := ⟨fun g => absurd rfl g, fun _ => h⟩
theorem i_self {P R : Prop} {x : Int32} (h : P) : (x = x → P) ∧ (¬ x = x → R) := ⟨fun _ => h, fun g => absurd rfl g⟩
theorem i_self' {P R : Prop} {x : Int32} (h : P) : (¬ x = x → R) ∧ (x = x → P) := ⟨fun g => absurd rfl g, fun _ => h⟩
theorem i_in {n N : Nat} (h : n < N) (hN : N < 1000000000) : vp_in (nI n) N := vp_in_nI h (sm31 hN)
theorem i_cl {n : Nat} (h : n < 1000000000) : (nI n).toNatClampNeg = n := nI_clamp (sm31 h)
theorem x_up_ss (σ : x_S) (k j : Nat) (v : Int32) : x_up σ k j v k j = v := by
  rw [x_up_s]
  exact if_pos rfl
theorem x_up_sn {σ : x_S} {k j i : Nat} {v : Int32} (h : i ≠ j) : x_up σ k j v k i = σ k i := by
  rw [x_up_s]
  exact if_neg h
theorem x_up_i (σ : x_S) (k j i : Nat) (v : Int32) : x_up σ k j v k i = if i = j then v else σ k i := by
  rw [x_up_s]
  rfl

theorem x_l0_I  {B : (x_S → x_L → Prop) → x_S → x_L → Prop} (I : Nat → x_S → x_L → Prop) (hB : ∀ k σ τ, I k σ τ → ∀ K : x_S → x_L → Prop, (∀ j σ' τ', j < k → I j σ' τ' → K σ' τ') → B K σ τ) (k : Nat) {σ : x_S} {τ : x_L} (h : I k σ τ) : x_l0 B σ τ := by
  have key : ∀ n k σ τ, k < n → I k σ τ → x_n0 B n σ τ := by
    intro n
    induction n with
    | zero => intro k σ τ hk; exact absurd hk (Nat.not_lt_zero _)
    | succ n ih => intro k σ τ hk hI; exact hB k σ τ hI _ (fun j σ' τ' hj hj2 => ih j σ' τ' (by omega) hj2)
  exact ⟨k + 1, key (k + 1) k σ τ (Nat.lt_succ_self k) h⟩
theorem x_l1_I {A0 : Type} {B : (A0 → x_S → x_L → Prop) → A0 → x_S → x_L → Prop} (I : Nat → A0 → x_S → x_L → Prop) (hB : ∀ k a0 σ τ, I k a0 σ τ → ∀ K : A0 → x_S → x_L → Prop, (∀ j b0 σ' τ', j < k → I j b0 σ' τ' → K b0 σ' τ') → B K a0 σ τ) (k : Nat) {a0 : A0} {σ : x_S} {τ : x_L} (h : I k a0 σ τ) : x_l1 B a0 σ τ := by
  have key : ∀ n k a0 σ τ, k < n → I k a0 σ τ → x_n1 B n a0 σ τ := by
    intro n
    induction n with
    | zero => intro k a0 σ τ hk; exact absurd hk (Nat.not_lt_zero _)
    | succ n ih => intro k a0 σ τ hk hI; exact hB k a0 σ τ hI _ (fun j b0 σ' τ' hj hj2 => ih j b0 σ' τ' (by omega) hj2)
  exact ⟨k + 1, key (k + 1) k a0 σ τ (Nat.lt_succ_self k) h⟩
theorem x_l2_I {A0 : Type} {A1 : Type} {B : (A0 → A1 → x_S → x_L → Prop) → A0 → A1 → x_S → x_L → Prop} (I : Nat → A0 → A1 → x_S → x_L → Prop) (hB : ∀ k a0 a1 σ τ, I k a0 a1 σ τ → ∀ K : A0 → A1 → x_S → x_L → Prop, (∀ j b0 b1 σ' τ', j < k → I j b0 b1 σ' τ' → K b0 b1 σ' τ') → B K a0 a1 σ τ) (k : Nat) {a0 : A0} {a1 : A1} {σ : x_S} {τ : x_L} (h : I k a0 a1 σ τ) : x_l2 B a0 a1 σ τ := by
  have key : ∀ n k a0 a1 σ τ, k < n → I k a0 a1 σ τ → x_n2 B n a0 a1 σ τ := by
    intro n
    induction n with
    | zero => intro k a0 a1 σ τ hk; exact absurd hk (Nat.not_lt_zero _)
    | succ n ih => intro k a0 a1 σ τ hk hI; exact hB k a0 a1 σ τ hI _ (fun j b0 b1 σ' τ' hj hj2 => ih j b0 b1 σ' τ' (by omega) hj2)
  exact ⟨k + 1, key (k + 1) k a0 a1 σ τ (Nat.lt_succ_self k) h⟩
theorem x_l3_I {A0 : Type} {A1 : Type} {A2 : Type} {B : (A0 → A1 → A2 → x_S → x_L → Prop) → A0 → A1 → A2 → x_S → x_L → Prop} (I : Nat → A0 → A1 → A2 → x_S → x_L → Prop) (hB : ∀ k a0 a1 a2 σ τ, I k a0 a1 a2 σ τ → ∀ K : A0 → A1 → A2 → x_S → x_L → Prop, (∀ j b0 b1 b2 σ' τ', j < k → I j b0 b1 b2 σ' τ' → K b0 b1 b2 σ' τ') → B K a0 a1 a2 σ τ) (k : Nat) {a0 : A0} {a1 : A1} {a2 : A2} {σ : x_S} {τ : x_L} (h : I k a0 a1 a2 σ τ) : x_l3 B a0 a1 a2 σ τ := by
  have key : ∀ n k a0 a1 a2 σ τ, k < n → I k a0 a1 a2 σ τ → x_n3 B n a0 a1 a2 σ τ := by
    intro n
    induction n with
    | zero => intro k a0 a1 a2 σ τ hk; exact absurd hk (Nat.not_lt_zero _)
    | succ n ih => intro k a0 a1 a2 σ τ hk hI; exact hB k a0 a1 a2 σ τ hI _ (fun j b0 b1 b2 σ' τ' hj hj2 => ih j b0 b1 b2 σ' τ' (by omega) hj2)
  exact ⟨k + 1, key (k + 1) k a0 a1 a2 σ τ (Nat.lt_succ_self k) h⟩
theorem x_l4_I {A0 : Type} {A1 : Type} {A2 : Type} {A3 : Type} {B : (A0 → A1 → A2 → A3 → x_S → x_L → Prop) → A0 → A1 → A2 → A3 → x_S → x_L → Prop} (I : Nat → A0 → A1 → A2 → A3 → x_S → x_L → Prop) (hB : ∀ k a0 a1 a2 a3 σ τ, I k a0 a1 a2 a3 σ τ → ∀ K : A0 → A1 → A2 → A3 → x_S → x_L → Prop, (∀ j b0 b1 b2 b3 σ' τ', j < k → I j b0 b1 b2 b3 σ' τ' → K b0 b1 b2 b3 σ' τ') → B K a0 a1 a2 a3 σ τ) (k : Nat) {a0 : A0} {a1 : A1} {a2 : A2} {a3 : A3} {σ : x_S} {τ : x_L} (h : I k a0 a1 a2 a3 σ τ) : x_l4 B a0 a1 a2 a3 σ τ := by
  have key : ∀ n k a0 a1 a2 a3 σ τ, k < n → I k a0 a1 a2 a3 σ τ → x_n4 B n a0 a1 a2 a3 σ τ := by
    intro n
    induction n with
    | zero => intro k a0 a1 a2 a3 σ τ hk; exact absurd hk (Nat.not_lt_zero _)
    | succ n ih => intro k a0 a1 a2 a3 σ τ hk hI; exact hB k a0 a1 a2 a3 σ τ hI _ (fun j b0 b1 b2 b3 σ' τ' hj hj2 => ih j b0 b1 b2 b3 σ' τ' (by omega) hj2)
  exact ⟨k + 1, key (k + 1) k a0 a1 a2 a3 σ τ (Nat.lt_succ_self k) h⟩
theorem x_l5_I {A0 : Type} {A1 : Type} {A2 : Type} {A3 : Type} {A4 : Type} {B : (A0 → A1 → A2 → A3 → A4 → x_S → x_L → Prop) → A0 → A1 → A2 → A3 → A4 → x_S → x_L → Prop} (I : Nat → A0 → A1 → A2 → A3 → A4 → x_S → x_L → Prop) (hB : ∀ k a0 a1 a2 a3 a4 σ τ, I k a0 a1 a2 a3 a4 σ τ → ∀ K : A0 → A1 → A2 → A3 → A4 → x_S → x_L → Prop, (∀ j b0 b1 b2 b3 b4 σ' τ', j < k → I j b0 b1 b2 b3 b4 σ' τ' → K b0 b1 b2 b3 b4 σ' τ') → B K a0 a1 a2 a3 a4 σ τ) (k : Nat) {a0 : A0} {a1 : A1} {a2 : A2} {a3 : A3} {a4 : A4} {σ : x_S} {τ : x_L} (h : I k a0 a1 a2 a3 a4 σ τ) : x_l5 B a0 a1 a2 a3 a4 σ τ := by
  have key : ∀ n k a0 a1 a2 a3 a4 σ τ, k < n → I k a0 a1 a2 a3 a4 σ τ → x_n5 B n a0 a1 a2 a3 a4 σ τ := by
    intro n
    induction n with
    | zero => intro k a0 a1 a2 a3 a4 σ τ hk; exact absurd hk (Nat.not_lt_zero _)
    | succ n ih => intro k a0 a1 a2 a3 a4 σ τ hk hI; exact hB k a0 a1 a2 a3 a4 σ τ hI _ (fun j b0 b1 b2 b3 b4 σ' τ' hj hj2 => ih j b0 b1 b2 b3 b4 σ' τ' (by omega) hj2)
  exact ⟨k + 1, key (k + 1) k a0 a1 a2 a3 a4 σ τ (Nat.lt_succ_self k) h⟩
theorem x_l6_I {A0 : Type} {A1 : Type} {A2 : Type} {A3 : Type} {A4 : Type} {A5 : Type} {B : (A0 → A1 → A2 → A3 → A4 → A5 → x_S → x_L → Prop) → A0 → A1 → A2 → A3 → A4 → A5 → x_S → x_L → Prop} (I : Nat → A0 → A1 → A2 → A3 → A4 → A5 → x_S → x_L → Prop) (hB : ∀ k a0 a1 a2 a3 a4 a5 σ τ, I k a0 a1 a2 a3 a4 a5 σ τ → ∀ K : A0 → A1 → A2 → A3 → A4 → A5 → x_S → x_L → Prop, (∀ j b0 b1 b2 b3 b4 b5 σ' τ', j < k → I j b0 b1 b2 b3 b4 b5 σ' τ' → K b0 b1 b2 b3 b4 b5 σ' τ') → B K a0 a1 a2 a3 a4 a5 σ τ) (k : Nat) {a0 : A0} {a1 : A1} {a2 : A2} {a3 : A3} {a4 : A4} {a5 : A5} {σ : x_S} {τ : x_L} (h : I k a0 a1 a2 a3 a4 a5 σ τ) : x_l6 B a0 a1 a2 a3 a4 a5 σ τ := by
  have key : ∀ n k a0 a1 a2 a3 a4 a5 σ τ, k < n → I k a0 a1 a2 a3 a4 a5 σ τ → x_n6 B n a0 a1 a2 a3 a4 a5 σ τ := by
    intro n
    induction n with
    | zero => intro k a0 a1 a2 a3 a4 a5 σ τ hk; exact absurd hk (Nat.not_lt_zero _)
    | succ n ih => intro k a0 a1 a2 a3 a4 a5 σ τ hk hI; exact hB k a0 a1 a2 a3 a4 a5 σ τ hI _ (fun j b0 b1 b2 b3 b4 b5 σ' τ' hj hj2 => ih j b0 b1 b2 b3 b4 b5 σ' τ' (by omega) hj2)
  exact ⟨k + 1, key (k + 1) k a0 a1 a2 a3 a4 a5 σ τ (Nat.lt_succ_self k) h⟩
theorem x_l7_I {A0 : Type} {A1 : Type} {A2 : Type} {A3 : Type} {A4 : Type} {A5 : Type} {A6 : Type} {B : (A0 → A1 → A2 → A3 → A4 → A5 → A6 → x_S → x_L → Prop) → A0 → A1 → A2 → A3 → A4 → A5 → A6 → x_S → x_L → Prop} (I : Nat → A0 → A1 → A2 → A3 → A4 → A5 → A6 → x_S → x_L → Prop) (hB : ∀ k a0 a1 a2 a3 a4 a5 a6 σ τ, I k a0 a1 a2 a3 a4 a5 a6 σ τ → ∀ K : A0 → A1 → A2 → A3 → A4 → A5 → A6 → x_S → x_L → Prop, (∀ j b0 b1 b2 b3 b4 b5 b6 σ' τ', j < k → I j b0 b1 b2 b3 b4 b5 b6 σ' τ' → K b0 b1 b2 b3 b4 b5 b6 σ' τ') → B K a0 a1 a2 a3 a4 a5 a6 σ τ) (k : Nat) {a0 : A0} {a1 : A1} {a2 : A2} {a3 : A3} {a4 : A4} {a5 : A5} {a6 : A6} {σ : x_S} {τ : x_L} (h : I k a0 a1 a2 a3 a4 a5 a6 σ τ) : x_l7 B a0 a1 a2 a3 a4 a5 a6 σ τ := by
  have key : ∀ n k a0 a1 a2 a3 a4 a5 a6 σ τ, k < n → I k a0 a1 a2 a3 a4 a5 a6 σ τ → x_n7 B n a0 a1 a2 a3 a4 a5 a6 σ τ := by
    intro n
    induction n with
    | zero => intro k a0 a1 a2 a3 a4 a5 a6 σ τ hk; exact absurd hk (Nat.not_lt_zero _)
    | succ n ih => intro k a0 a1 a2 a3 a4 a5 a6 σ τ hk hI; exact hB k a0 a1 a2 a3 a4 a5 a6 σ τ hI _ (fun j b0 b1 b2 b3 b4 b5 b6 σ' τ' hj hj2 => ih j b0 b1 b2 b3 b4 b5 b6 σ' τ' (by omega) hj2)
  exact ⟨k + 1, key (k + 1) k a0 a1 a2 a3 a4 a5 a6 σ τ (Nat.lt_succ_self k) h⟩
theorem x_l8_I {A0 : Type} {A1 : Type} {A2 : Type} {A3 : Type} {A4 : Type} {A5 : Type} {A6 : Type} {A7 : Type} {B : (A0 → A1 → A2 → A3 → A4 → A5 → A6 → A7 → x_S → x_L → Prop) → A0 → A1 → A2 → A3 → A4 → A5 → A6 → A7 → x_S → x_L → Prop} (I : Nat → A0 → A1 → A2 → A3 → A4 → A5 → A6 → A7 → x_S → x_L → Prop) (hB : ∀ k a0 a1 a2 a3 a4 a5 a6 a7 σ τ, I k a0 a1 a2 a3 a4 a5 a6 a7 σ τ → ∀ K : A0 → A1 → A2 → A3 → A4 → A5 → A6 → A7 → x_S → x_L → Prop, (∀ j b0 b1 b2 b3 b4 b5 b6 b7 σ' τ', j < k → I j b0 b1 b2 b3 b4 b5 b6 b7 σ' τ' → K b0 b1 b2 b3 b4 b5 b6 b7 σ' τ') → B K a0 a1 a2 a3 a4 a5 a6 a7 σ τ) (k : Nat) {a0 : A0} {a1 : A1} {a2 : A2} {a3 : A3} {a4 : A4} {a5 : A5} {a6 : A6} {a7 : A7} {σ : x_S} {τ : x_L} (h : I k a0 a1 a2 a3 a4 a5 a6 a7 σ τ) : x_l8 B a0 a1 a2 a3 a4 a5 a6 a7 σ τ := by
  have key : ∀ n k a0 a1 a2 a3 a4 a5 a6 a7 σ τ, k < n → I k a0 a1 a2 a3 a4 a5 a6 a7 σ τ → x_n8 B n a0 a1 a2 a3 a4 a5 a6 a7 σ τ := by
    intro n
    induction n with
    | zero => intro k a0 a1 a2 a3 a4 a5 a6 a7 σ τ hk; exact absurd hk (Nat.not_lt_zero _)
    | succ n ih => intro k a0 a1 a2 a3 a4 a5 a6 a7 σ τ hk hI; exact hB k a0 a1 a2 a3 a4 a5 a6 a7 σ τ hI _ (fun j b0 b1 b2 b3 b4 b5 b6 b7 σ' τ' hj hj2 => ih j b0 b1 b2 b3 b4 b5 b6 b7 σ' τ' (by omega) hj2)
  exact ⟨k + 1, key (k + 1) k a0 a1 a2 a3 a4 a5 a6 a7 σ τ (Nat.lt_succ_self k) h⟩
theorem x_l9_I {A0 : Type} {A1 : Type} {A2 : Type} {A3 : Type} {A4 : Type} {A5 : Type} {A6 : Type} {A7 : Type} {A8 : Type} {B : (A0 → A1 → A2 → A3 → A4 → A5 → A6 → A7 → A8 → x_S → x_L → Prop) → A0 → A1 → A2 → A3 → A4 → A5 → A6 → A7 → A8 → x_S → x_L → Prop} (I : Nat → A0 → A1 → A2 → A3 → A4 → A5 → A6 → A7 → A8 → x_S → x_L → Prop) (hB : ∀ k a0 a1 a2 a3 a4 a5 a6 a7 a8 σ τ, I k a0 a1 a2 a3 a4 a5 a6 a7 a8 σ τ → ∀ K : A0 → A1 → A2 → A3 → A4 → A5 → A6 → A7 → A8 → x_S → x_L → Prop, (∀ j b0 b1 b2 b3 b4 b5 b6 b7 b8 σ' τ', j < k → I j b0 b1 b2 b3 b4 b5 b6 b7 b8 σ' τ' → K b0 b1 b2 b3 b4 b5 b6 b7 b8 σ' τ') → B K a0 a1 a2 a3 a4 a5 a6 a7 a8 σ τ) (k : Nat) {a0 : A0} {a1 : A1} {a2 : A2} {a3 : A3} {a4 : A4} {a5 : A5} {a6 : A6} {a7 : A7} {a8 : A8} {σ : x_S} {τ : x_L} (h : I k a0 a1 a2 a3 a4 a5 a6 a7 a8 σ τ) : x_l9 B a0 a1 a2 a3 a4 a5 a6 a7 a8 σ τ := by
  have key : ∀ n k a0 a1 a2 a3 a4 a5 a6 a7 a8 σ τ, k < n → I k a0 a1 a2 a3 a4 a5 a6 a7 a8 σ τ → x_n9 B n a0 a1 a2 a3 a4 a5 a6 a7 a8 σ τ := by
    intro n
    induction n with
    | zero => intro k a0 a1 a2 a3 a4 a5 a6 a7 a8 σ τ hk; exact absurd hk (Nat.not_lt_zero _)
    | succ n ih => intro k a0 a1 a2 a3 a4 a5 a6 a7 a8 σ τ hk hI; exact hB k a0 a1 a2 a3 a4 a5 a6 a7 a8 σ τ hI _ (fun j b0 b1 b2 b3 b4 b5 b6 b7 b8 σ' τ' hj hj2 => ih j b0 b1 b2 b3 b4 b5 b6 b7 b8 σ' τ' (by omega) hj2)
  exact ⟨k + 1, key (k + 1) k a0 a1 a2 a3 a4 a5 a6 a7 a8 σ τ (Nat.lt_succ_self k) h⟩
