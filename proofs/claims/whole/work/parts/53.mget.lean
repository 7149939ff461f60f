/-! the reference's network and choices, and what is read of them -/
def m_F (N : g_F) (ρ : x_S) : Prop := (ρ 3 0 = nI (N 0 0) ∧ ρ 3 1 = nI (N 0 1)) ∧ (∀ r, r < N 0 0 → ρ 3 (2 + 4 * r) = nI (N 1 r) ∧ ρ 3 (2 + 4 * r + 1) = nI (N 2 r) ∧ ρ 3 (2 + 4 * r + 2) = nI (N 3 r) ∧ ρ 3 (2 + 4 * r + 3) = nI (N 4 r)) ∧ (∀ t, t < N 0 1 → ρ 3 (122 + 14 * t) = nI (N 5 t) ∧ ρ 3 (122 + 14 * t + 1) = nI (N 6 t) ∧ ρ 3 (122 + 14 * t + 2) = nI (N 7 t) ∧ ρ 3 (122 + 14 * t + 3) = nI (N 8 t)) ∧ ∀ s, g_is N s → ρ 3 (122 + 14 * (s / 10) + (4 + s % 10)) = nI (N 9 s)
def m_C (N C : g_F) (b : Nat) (ρ : x_S) : Prop := (∀ t, t < N 0 1 → ρ 1 (b + t) = nI (C 0 t)) ∧ ∀ s, g_is N s → ρ 1 (b + (12 + s)) = nI (C 1 s) ∧ ρ 1 (b + (132 + s)) = nI (C 2 s)
theorem m_F.cong {N : g_F} {ρ ρ' : x_S} (h : m_F N ρ) (e : ρ' 3 = ρ 3) : m_F N ρ' := by
  unfold m_F at h ⊢
  rw [e]
  exact h
theorem m_C.cong {N C : g_F} {b : Nat} {ρ ρ' : x_S} (h : m_C N C b ρ) (e : ρ' 1 = ρ 1) : m_C N C b ρ' := by
  unfold m_C at h ⊢
  rw [e]
  exact h
theorem e_spot (t q : Nat) : (10 * nI t + nI q : Int32) = nI (10 * t + q) := by
  show nI 10 * nI t + nI q = _
  rw [nI_mul, nI_add]
section MG
variable {N C : g_F} {ρ : x_S} {θ : x_L} {Q : Int32 → x_S → x_L → Prop}
theorem sM_ofRoad {r k : Nat} (hr : r < 30) (hk : k < 4) (h : Q (ρ 3 (2 + 4 * r + k)) ρ θ) : wX11_ofRoad (nI r) (nI k) ρ θ Q := by
  unfold wX11_ofRoad
  have e : (2 + 4 * nI r + nI k : Int32) = nI (2 + 4 * r + k) := by
    show nI 2 + nI 4 * nI r + nI k = _
    rw [nI_mul, nI_add, nI_add]
  rw [e, i_cl (by omega)]
  exact ⟨i_in (by omega) (by omega), h⟩
theorem sM_ofTruck {t k : Nat} (ht : t < 12) (hk : k < 14) (h : Q (ρ 3 (122 + 14 * t + k)) ρ θ) : wX11_ofTruck (nI t) (nI k) ρ θ Q := by
  unfold wX11_ofTruck
  have e : (122 + 14 * nI t + nI k : Int32) = nI (122 + 14 * t + k) := by
    show nI 122 + nI 14 * nI t + nI k = _
    rw [nI_mul, nI_add, nI_add]
  rw [e, i_cl (by omega)]
  exact ⟨i_in (by omega) (by omega), h⟩
theorem sM_places (hN : g_WN N) (hF : m_F N ρ) {t : Nat} (ht : t < N 0 1) (h : Q (nI (N 8 t)) ρ θ) : wX11_placesOf (nI t) ρ θ Q := by
  unfold wX11_placesOf
  refine sM_ofTruck (k := 3) (by have := hN.1.2; omega) (by omega) ?_
  rw [(hF.2.2.1 t ht).2.2.2]
  exact h
theorem sM_gap (hN : g_WN N) (hF : m_F N ρ) {t : Nat} (ht : t < N 0 1) (h : Q (nI (N 7 t)) ρ θ) : wX11_ofTruck (nI t) 2 ρ θ Q := by
  refine sM_ofTruck (k := 2) (by have := hN.1.2; omega) (by omega) ?_
  rw [(hF.2.2.1 t ht).2.2.1]
  exact h
theorem sM_dl (hN : g_WN N) (hF : m_F N ρ) {t : Nat} (ht : t < N 0 1) (h : Q (nI (N 6 t)) ρ θ) : wX11_ofTruck (nI t) 1 ρ θ Q := by
  refine sM_ofTruck (k := 1) (by have := hN.1.2; omega) (by omega) ?_
  rw [(hF.2.2.1 t ht).2.1]
  exact h
theorem sM_road (hN : g_WN N) (hF : m_F N ρ) {t q : Nat} (ht : t < N 0 1) (hq : q < N 8 t) (h : Q (nI (N 9 (10 * t + q))) ρ θ) : wX11_roadAt (nI t) (nI q) ρ θ Q := by
  obtain ⟨hs, e1, e2, h1, h2, h3⟩ := g_is_of hN ht hq
  unfold wX11_roadAt
  rw [show (4 + nI q : Int32) = nI (4 + q) from nI_add 4 q]
  refine sM_ofTruck (by omega) (by omega) ?_
  have := hF.2.2.2 _ hs
  rw [e1, e2] at this
  rw [this]
  exact h
theorem sM_spot {t q : Nat} (h : Q (nI (10 * t + q)) ρ θ) : wX11_spot (nI t) (nI q) ρ θ Q := by
  unfold wX11_spot
  rw [e_spot]
  exact h
theorem sM_wait (hN : g_WN N) (hC : m_C N C 0 ρ) {t q : Nat} (ht : t < N 0 1) (hq : q < N 8 t) (h : Q (nI (C 1 (10 * t + q))) ρ θ) : wX11_waitAt (nI t) (nI q) ρ θ Q := by
  obtain ⟨hs, e1, e2, h1, h2, h3⟩ := g_is_of hN ht hq
  unfold wX11_waitAt
  refine sM_spot ?_
  rw [show (12 + nI (10 * t + q) : Int32) = nI (12 + (10 * t + q)) from nI_add 12 _, i_cl (by omega)]
  refine ⟨i_in (by omega) (by omega), ?_⟩
  have := (hC.2 _ hs).1
  rw [Nat.zero_add] at this
  rw [this]
  exact h
theorem sM_speed (hN : g_WN N) (hC : m_C N C 0 ρ) {t q : Nat} (ht : t < N 0 1) (hq : q < N 8 t) (h : Q (nI (C 2 (10 * t + q))) ρ θ) : wX11_speedAt (nI t) (nI q) ρ θ Q := by
  obtain ⟨hs, e1, e2, h1, h2, h3⟩ := g_is_of hN ht hq
  unfold wX11_speedAt
  refine sM_spot ?_
  rw [show (132 + nI (10 * t + q) : Int32) = nI (132 + (10 * t + q)) from nI_add 132 _, i_cl (by omega)]
  refine ⟨i_in (by omega) (by omega), ?_⟩
  have := (hC.2 _ hs).2
  rw [Nat.zero_add] at this
  rw [this]
  exact h
theorem sM_len (hN : g_WN N) (hF : m_F N ρ) {r : Nat} (hr : r < N 0 0) (h : Q (nI (N 3 r)) ρ θ) : wX11_ofRoad (nI r) 2 ρ θ Q := by
  refine sM_ofRoad (k := 2) (by have := hN.1.1; omega) (by omega) ?_
  rw [(hF.2.1 r hr).2.2.1]
  exact h
theorem sM_lim (hN : g_WN N) (hF : m_F N ρ) {r : Nat} (hr : r < N 0 0) (h : Q (nI (N 4 r)) ρ θ) : wX11_ofRoad (nI r) 3 ρ θ Q := by
  refine sM_ofRoad (k := 3) (by have := hN.1.1; omega) (by omega) ?_
  rw [(hF.2.1 r hr).2.2.2]
  exact h
theorem sM_limit (hN : g_WN N) (hF : m_F N ρ) {t q : Nat} (ht : t < N 0 1) (hq : q < N 8 t) (h : Q (nI (N 4 (N 9 (10 * t + q)))) ρ θ) : wX11_limitAt (nI t) (nI q) ρ θ Q := by
  unfold wX11_limitAt
  exact sM_road hN hF ht hq (sM_lim hN hF (hN.2.2.2 t q ht hq) h)
theorem e_min {l v : Nat} (hl : l ≤ 300) (h1 : 40 ≤ v) (h2 : v ≤ 120) : ((nI l * 60 + nI v - 1) / nI v : Int32) = nI ((l * 60 + v - 1) / v) := by
  show (nI l * nI 60 + nI v - nI 1) / nI v = _
  rw [nI_mul, nI_add, nI_sub (by omega), nI_div (by omega) (by omega) (by omega)]
theorem nI_n0 {v : Nat} (h0 : 0 < v) (h : v < 1000000000) : ¬ nI v = 0 := fun e => by
  have := (nI_eq (b := 0) (sm31 h) (by omega)).mp e
  omega
theorem sM_minutes (hN : g_WN N) (hF : m_F N ρ) {r v : Nat} (hr : r < N 0 0) (h1 : 40 ≤ v) (h2 : v ≤ 120) (h : Q (nI (g_min N r v)) ρ θ) : wX11_minutes (nI r) (nI v) ρ θ Q := by
  unfold wX11_minutes
  refine sM_len hN hF hr ⟨nI_n0 (by omega) (by omega), ?_⟩
  rw [e_min (hN.2.1 r hr).2.2.2.1 h1 h2]
  exact h
theorem e_base {l v : Nat} (hl : l ≤ 300) (h2 : v ≤ 120) : (nI l * (150 + nI v * nI v / 40) : Int32) = nI (l * (150 + v * v / 40)) := by
  have h3 : v * v ≤ 120 * 120 := Nat.mul_le_mul h2 h2
  show nI l * (nI 150 + nI v * nI v / nI 40) = _
  rw [nI_mul, nI_div (by omega) (by omega) (by omega), nI_add, nI_mul]
theorem sM_base (hN : g_WN N) (hW : g_WC N C) (hF : m_F N ρ) (hC : m_C N C 0 ρ) {t q : Nat} (ht : t < N 0 1) (hq : q < N 8 t) (h : Q (nI (g_base N C (10 * t + q))) ρ θ) : wX11_baseAt (nI t) (nI q) ρ θ Q := by
  obtain ⟨hs, e1, e2, -⟩ := g_is_of hN ht hq
  unfold wX11_baseAt
  refine sM_speed hN hC ht hq (sM_road hN hF ht hq (sM_len hN hF (hN.2.2.2 t q ht hq) ?_))
  rw [e_base (hN.2.1 _ (hN.2.2.2 t q ht hq)).2.2.2.1 (g_sp_b hN hW hs).2]
  exact h
/-- a road as an int; none is -1 -/
def g_nI (x : Nat) : Int32 := if x = 0 then -1 else nI (x - 1)
theorem g_nI_eq {x y : Nat} (hx : x < 1000) (hy : y < 1000) : g_nI x = g_nI y ↔ x = y := by
  unfold g_nI
  constructor
  · intro h
    by_cases h1 : x = 0 <;> by_cases h2 : y = 0
    · omega
    · rw [if_pos h1, if_neg h2] at h
      exact absurd h.symm (nI_m1 (by omega))
    · rw [if_neg h1, if_pos h2] at h
      exact absurd h (nI_m1 (by omega))
    · rw [if_neg h1, if_neg h2] at h
      have := (nI_eq (by omega) (by omega)).mp h
      omega
  · intro h
    rw [h]
theorem g_nI_m1 {x : Nat} (hx : x < 1000) : g_nI x = -1 ↔ x = 0 := g_nI_eq (y := 0) hx (by omega)
theorem g_nxt_b (hN : g_WN N) {s : Nat} (h : g_is N s) : g_nxt N s < 31 := by
  unfold g_nxt
  split
  · rename_i h1
    have h2 := hN.2.2.2 (s / 10) (s % 10 + 1) h.1 h1
    rw [show 10 * (s / 10) + (s % 10 + 1) = s + 1 by omega] at h2
    have := hN.1.1
    omega
  · omega
theorem sM_next (hN : g_WN N) (hF : m_F N ρ) {t q : Nat} (ht : t < N 0 1) (hq : q < N 8 t) (h : Q (g_nI (g_nxt N (10 * t + q))) ρ θ) : wX11_nextRoad (nI t) (nI q) ρ θ Q := by
  obtain ⟨hs, e1, e2, h1, h2, h3⟩ := g_is_of hN ht hq
  have h10 := (hN.2.2.1 t ht).2.2.2.2.2
  unfold wX11_nextRoad
  refine sM_places hN hF ht ?_
  rw [show (nI q + 1 : Int32) = nI (q + 1) from nI_add q 1]
  refine i_le (by omega) (by omega) (fun h4 => ?_) (fun h4 => ?_)
  · unfold wX11_nextRoad_23
    unfold g_nxt at h
    rw [e1, e2, if_neg (by omega)] at h
    exact h
  · refine sM_road hN hF ht h4 ?_
    unfold wX11_nextRoad_23
    unfold g_nxt at h
    rw [e1, e2, if_pos h4] at h
    exact h
theorem sM_max {a b : Nat} (ha : a < 1000000000) (hb : b < 1000000000) (h : Q (nI (max a b)) ρ θ) : wX11_max (nI a) (nI b) ρ θ Q := by
  unfold wX11_max wX11_max_10
  refine i_le ha hb (fun h1 => ?_) (fun h1 => ?_)
  · rw [Nat.max_eq_right h1] at h
    exact h
  · rw [Nat.max_eq_left (by omega)] at h
    exact h
theorem sM_min {a b : Nat} (ha : a < 1000000000) (hb : b < 1000000000) (h : Q (nI (min a b)) ρ θ) : wX11_min (nI a) (nI b) ρ θ Q := by
  unfold wX11_min wX11_min_10
  refine i_le hb ha (fun h1 => ?_) (fun h1 => ?_)
  · rw [Nat.min_eq_right h1] at h
    exact h
  · rw [Nat.min_eq_left (by omega)] at h
    exact h
end MG
