/-! sets of trucks as numbers -/
theorem nI_or (a b : Nat) : nI a ||| nI b = nI (a ||| b) := by
  apply Int32.toBitVec_inj.1
  show BitVec.ofNat 32 a ||| BitVec.ofNat 32 b = BitVec.ofNat 32 (a ||| b)
  apply BitVec.eq_of_getLsbD_eq
  intro i hi
  simp [hi]
theorem nI_bit : ∀ t, t < 12 → (1 : Int32) <<< (nI t &&& 31) = nI (2 ^ t) := by decide +kernel
theorem s_l12 : ∀ n, n < 12 → ((nI n &&& 31).toBitVec.smod 32).toNat = n := by decide +kernel
theorem nI_tst {m t : Nat} (hm : m < 4096) (ht : t < 12) : (nI m >>> (nI t &&& 31)) &&& 1 = if m.testBit t = true then 1 else 0 := by
  rw [pk_shrN (by omega) (nI t &&& 31) t (s_l12 t ht), pk_andN (Nat.lt_of_le_of_lt (Nat.div_le_self _ _) (by omega)) 1 (by decide), Nat.testBit_eq_decide_div_mod_eq]
  rcases Nat.mod_two_eq_zero_or_one (m / 2 ^ t) with h | h
  · rw [show (2 : Nat) ^ 1 = 2 from rfl, h, if_neg (by decide)]
    rfl
  · rw [show (2 : Nat) ^ 1 = 2 from rfl, h, if_pos (by decide)]
    rfl
/-- all of them together -/
def g_orv (v : Nat → Nat) : Nat → Nat
  | 0 => 0
  | n + 1 => g_orv v n ||| v n
theorem g_orv_lt {v : Nat → Nat} : ∀ {n : Nat}, (∀ i, i < n → v i < 4096) → g_orv v n < 4096
  | 0, _ => Nat.lt_of_lt_of_le Nat.zero_lt_one (by decide)
  | n + 1, h => Nat.or_lt_two_pow (n := 12) (g_orv_lt (fun i hi => h i (by omega))) (h n (by omega))
theorem g_orv_bit {v : Nat → Nat} {k : Nat} : ∀ {n : Nat}, (g_orv v n).testBit k = true ↔ ∃ i, i < n ∧ (v i).testBit k = true
  | 0 => by
    rw [g_orv]
    constructor
    · intro h
      rw [Nat.zero_testBit] at h
      cases h
    · rintro ⟨i, hi, -⟩
      exact absurd hi (Nat.not_lt_zero _)
  | n + 1 => by
    rw [g_orv, Nat.testBit_or, Bool.or_eq_true, g_orv_bit]
    constructor
    · rintro (⟨i, hi, h⟩ | h)
      · exact ⟨i, by omega, h⟩
      · exact ⟨n, by omega, h⟩
    · rintro ⟨i, hi, h⟩
      by_cases e : i = n
      · rw [e] at h
        exact Or.inr h
      · exact Or.inl ⟨i, by omega, h⟩
theorem g_orv_congr {v u : Nat → Nat} : ∀ {n : Nat}, (∀ i, i < n → v i = u i) → g_orv v n = g_orv u n
  | 0, _ => rfl
  | n + 1, h => by rw [g_orv, g_orv, g_orv_congr (fun i hi => h i (by omega)), h n (by omega)]
theorem g_bit_eq {a b : Nat} (h : ∀ k, a.testBit k = true ↔ b.testBit k = true) : a = b := Nat.eq_of_testBit_eq (fun k => Bool.eq_iff_iff.mpr (h k))
/-- a truck's bit, if p -/
def g_bt (p : Bool) (t : Nat) : Nat := if p = true then 2 ^ t else 0
theorem g_bt_lt {p : Bool} {t : Nat} (h : t < 12) : g_bt p t < 4096 := by
  unfold g_bt
  split
  · exact Nat.pow_lt_pow_right (by decide) (n := 12) h
  · omega
theorem g_bt_bit {p : Bool} {t k : Nat} : (g_bt p t).testBit k = true ↔ p = true ∧ t = k := by
  unfold g_bt
  split
  · rename_i h
    rw [Nat.testBit_two_pow, decide_eq_true_iff]
    exact ⟨fun e => ⟨h, e⟩, fun e => e.2⟩
  · rename_i h
    rw [Nat.zero_testBit]
    exact ⟨fun e => absurd e (by decide), fun e => absurd e.1 h⟩
theorem sM_bits {m : Nat} (hm : m < 4096) {ρ : x_S} {θ : x_L} {Q : Int32 → x_S → x_L → Prop} (h : Q (nI (g_pc m)) ρ θ) : wX11_bits (nI m) ρ θ Q := by
  unfold wX11_bits
  refine x_l2_I (fun k a b ρ' θ' => ∃ c n, a = nI c ∧ b = nI n ∧ n = k ∧ n ≤ m ∧ c + g_pc n = g_pc m ∧ ρ = ρ' ∧ θ = θ') ?_ m ⟨0, m, rfl, rfl, rfl, Nat.le_refl _, Nat.zero_add _, rfl, rfl⟩
  rintro k a b ρ' θ' ⟨c, n, rfl, rfl, rfl, hn, hc, rfl, rfl⟩ K hK
  unfold wX11_bits_4
  refine i_eq (b := 0) (by omega) (by omega) (fun g => ?_) (fun g => ?_)
  · rw [g, show g_pc 0 = 0 from by decide +kernel, Nat.add_zero] at hc
    rw [hc]
    exact h
  · obtain ⟨e1, e2, e3⟩ := m_bits_e n (by omega) g
    rw [e1, show (nI c + 1 : Int32) = nI (c + 1) from nI_add c 1]
    exact hK _ _ _ _ _ e2 ⟨c + 1, _, rfl, rfl, rfl, by omega, by omega, rfl, rfl⟩
