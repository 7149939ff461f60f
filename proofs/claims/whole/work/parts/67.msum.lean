/-! what the reference sums up -/
def g_what (N C : g_F) (k s : Nat) : Nat := if k = 0 then g_fuel N C s else if k = 1 then g_sav N C s else if k = 2 then g_one (g_clo N C s) else if k = 3 then g_base N C s else N 3 (N 9 s)
theorem g_sum_one (n : Nat) : g_sum (fun _ => 1) n = n := by
  induction n with
  | zero => rfl
  | succ n ih => rw [g_sum, ih]
theorem g_top_s {N : g_F} (hN : g_WN N) {f : Nat → Nat} {t q : Nat} (ht : t < N 0 1) (hq : q < N 8 t) : g_top N f (10 * t + (q + 1)) = max (g_top N f (10 * t + q)) (f (10 * t + q)) := by
  have h : (10 * t + q) / 10 < N 0 1 ∧ (10 * t + q) % 10 < N 8 ((10 * t + q) / 10) := (g_is_of hN ht hq).1
  unfold g_top
  rw [← Nat.add_assoc, g_mx, if_pos h]
theorem g_top_pad {N : g_F} {f : Nat → Nat} (m : Nat) : ∀ c, (∀ s, m ≤ s → s < m + c → ¬ g_is N s) → g_top N f (m + c) = g_top N f m
  | 0, _ => rfl
  | c + 1, h => by
    have ih := g_top_pad (N := N) (f := f) m c (fun s a b => h s a (by omega))
    have : ¬ ((m + c) / 10 < N 0 1 ∧ (m + c) % 10 < N 8 ((m + c) / 10)) := h (m + c) (by omega) (by omega)
    rw [← ih, ← Nat.add_assoc]
    unfold g_top
    rw [g_mx, if_neg this, Nat.max_eq_left (Nat.zero_le _)]
theorem g_top_t {N : g_F} (hN : g_WN N) {f : Nat → Nat} {t : Nat} (ht : t < N 0 1) : g_top N f (10 * t + N 8 t) = g_top N f (10 * (t + 1)) := by
  have h10 := (hN.2.2.1 t ht).2.2.2.2.2
  have := g_top_pad (N := N) (f := f) (10 * t + N 8 t) (10 - N 8 t) (fun s a b h => by
    have h2 := h.2
    have e : s / 10 = t := by omega
    rw [e] at h2
    omega)
  rw [← this]
  congr 1
  omega
theorem g_top_e {N : g_F} (hN : g_WN N) (f : Nat → Nat) : g_top N f (10 * N 0 1) = g_top N f 120 := by
  have h12 := hN.1.2
  have := g_top_pad (N := N) (f := f) (10 * N 0 1) (120 - 10 * N 0 1) (fun s a b h => by
    have := h.1
    omega)
  rw [← this, show 10 * N 0 1 + (120 - 10 * N 0 1) = 120 by omega]
theorem g_bg_all {N : g_F} (hN : g_WN N) : g_bg N (N 0 0) = g_all N (fun _ => 1) := by
  unfold g_bg g_all g_cnt
  refine g_sum_congr (fun s _ => ?_)
  by_cases z : s / 10 < N 0 1 ∧ s % 10 < N 8 (s / 10)
  · rw [if_pos z, if_pos (decide_eq_true ⟨z, g_road_lt hN z⟩)]
  · rw [if_neg z, if_neg (fun y => z (of_decide_eq_true y).1)]
section MQ
variable {N C : g_F} {ρ : x_S} {θ : x_L} {Q : Int32 → x_S → x_L → Prop}
theorem e_c1 : (1 : Int32).toNatClampNeg = 1 := rfl
theorem sM_fuelAt (hN : g_WN N) (hW : g_WC N C) (hF : m_F N ρ) (hC : m_C N C 0 ρ) {t q : Nat} (ht : t < N 0 1) (hq : q < N 8 t) (hS : m_S N C (10 * t + q) ρ) (h : Q (nI (g_fuel N C (10 * t + q))) ρ θ) : wX11_fuelAt (nI t) (nI q) ρ θ Q := by
  obtain ⟨hs, -, -, b1, -⟩ := g_is_of hN ht hq
  have hsv := g_sav_b hN hW hs
  unfold wX11_fuelAt wX11_fuelAt_37
  refine sM_base hN hW hF hC ht hq (sM_spot ⟨i_in b1 (by omega), sM_spot ⟨i_in b1 (by omega), ?_⟩⟩)
  rw [i_cl (by omega), hS.2.1, hS.2.2, nI_sub hsv.1]
  unfold g_fuel at h
  by_cases z : g_clo N C (10 * t + q) = true
  · rw [if_pos z] at h ⊢
    refine i_one' ?_
    rw [show (nI (g_base N C (10 * t + q) - g_sav N C (10 * t + q)) + 300 : Int32) = nI (g_base N C (10 * t + q) - g_sav N C (10 * t + q) + 300) from nI_add _ 300, show g_base N C (10 * t + q) - g_sav N C (10 * t + q) + 300 = g_base N C (10 * t + q) + 300 - g_sav N C (10 * t + q) by omega]
    exact h
  · rw [if_neg z] at h ⊢
    refine i_zer ?_
    rw [show (nI (g_base N C (10 * t + q) - g_sav N C (10 * t + q)) + 0 : Int32) = nI (g_base N C (10 * t + q) - g_sav N C (10 * t + q) + 0) from nI_add _ 0, show g_base N C (10 * t + q) - g_sav N C (10 * t + q) + 0 = g_base N C (10 * t + q) + 0 - g_sav N C (10 * t + q) by omega]
    exact h
theorem sM_sumOf (hN : g_WN N) (hW : g_WC N C) (hF : m_F N ρ) (hC : m_C N C 0 ρ) (hS : ∀ s, g_is N s → m_S N C s ρ) {t k : Nat} (ht : t < N 0 1) (hk : k < 5) (h : Q (nI (g_trk N (g_what N C k) t)) ρ θ) : wX11_sumOf (nI t) (nI k) ρ θ Q := by
  have hb := hN.1.2
  have hb0 := hN.1.1
  have h10 := (hN.2.2.1 t ht).2.2.2.2
  unfold wX11_sumOf
  refine x_F4 (fun _ => True) (fun _ => nI t) (fun _ => nI k) (fun i => nI (g_sum (fun q => g_what N C k (10 * t + q)) i)) (fun i => nI i) (lo := 0) (n := N 8 t) (Nat.zero_le _) (fun K i _ hi _ hK => ?_) (fun K _ => ?_) trivial rfl rfl rfl rfl
  · unfold wX11_sumOf_5 wX11_sumOf_98 wX11_sumOf_131
    obtain ⟨hs, -, -, b1, -⟩ := g_is_of hN ht hi
    have hK := hK trivial
    rw [g_sum] at hK
    have hr := hN.2.2.2 t i ht hi
    refine sM_places hN hF ht (i_le (by omega) (by omega) (fun g => absurd g (by omega)) (fun _ => sM_spot ?_))
    rw [show (nI i + 1 : Int32) = nI (i + 1) from nI_add i 1]
    have key : ∀ x, x = g_what N C k (10 * t + i) → K (nI t) (nI k) (nI (g_sum (fun q => g_what N C k (10 * t + q)) i) + nI x) (nI (i + 1)) ρ θ := fun x e => by
      rw [nI_add, e]
      exact hK
    match k, hk with
    | 0, _ => exact ⟨fun _ => sM_fuelAt hN hW hF hC ht hi (hS _ hs) (key _ rfl), fun g => absurd g (by decide), fun g => absurd g (by decide), fun g => absurd g (by decide), fun g => absurd (show nI 0 = 0 from rfl) g⟩
    | 1, _ =>
      refine ⟨fun g => absurd g (by decide), fun _ => ⟨i_in b1 (by omega), ?_⟩, fun g => absurd g (by decide), fun g => absurd g (by decide), fun _ g => absurd (show nI 1 = 1 from rfl) g⟩
      rw [i_cl (by omega), (hS _ hs).2.1]
      exact key _ rfl
    | 2, _ =>
      refine ⟨fun g => absurd g (by decide), fun g => absurd g (by decide), fun _ => ⟨i_in b1 (by omega), ?_⟩, fun g => absurd g (by decide), fun _ _ g => absurd (show nI 2 = 2 from rfl) g⟩
      rw [i_cl (by omega), (hS _ hs).2.2]
      by_cases z : g_clo N C (10 * t + i) = true
      · rw [if_pos z]
        exact i_one' (key 1 (by show 1 = g_one _; rw [z]; rfl))
      · rw [if_neg z]
        exact i_zer (key 0 (by show 0 = g_one _; unfold g_one; rw [if_neg z]))
    | 3, _ => exact ⟨fun g => absurd g (by decide), fun g => absurd g (by decide), fun g => absurd g (by decide), fun _ => sM_base hN hW hF hC ht hi (key _ rfl), fun _ _ _ g => absurd (show nI 3 = 3 from rfl) g⟩
    | 4, _ => exact ⟨fun g => absurd g (by decide), fun g => absurd g (by decide), fun g => absurd g (by decide), fun g => absurd g (by decide), fun _ _ _ _ => sM_road hN hF ht hi (sM_len hN hF hr (key _ rfl))⟩
    | k + 5, hk => exact absurd hk (by omega)
  · unfold wX11_sumOf_5
    exact sM_places hN hF ht (i_le (by omega) (by omega) (fun _ => h) (fun g => absurd g (by omega)))
theorem sM_sumAll (hN : g_WN N) (hW : g_WC N C) (hF : m_F N ρ) (hC : m_C N C 0 ρ) (hS : ∀ s, g_is N s → m_S N C s ρ) {k : Nat} (hk : k < 5) (h : Q (nI (g_all N (g_what N C k))) ρ θ) : wX11_sumOfAll (nI k) ρ θ Q := by
  have hb := hN.1.2
  unfold wX11_sumOfAll
  refine x_F3 (fun _ => True) (fun _ => nI k) (fun i => nI (g_part N (g_what N C k) (10 * i))) (fun i => nI i) (lo := 0) (n := N 0 1) (Nat.zero_le _) (fun K i _ hi _ hK => ?_) (fun K _ => ?_) trivial rfl rfl rfl
  · unfold wX11_sumOfAll_4
    rw [e_c1, hF.1.2]
    refine i_le (by omega) (by omega) (fun g => absurd g (by omega)) (fun _ => sM_sumOf hN hW hF hC hS hi hk ?_)
    rw [nI_add, ← g_part_k hN hi, show (nI i + 1 : Int32) = nI (i + 1) from nI_add i 1]
    exact hK trivial
  · unfold wX11_sumOfAll_4
    rw [e_c1, hF.1.2, g_part_e hN]
    exact i_le (by omega) (by omega) (fun _ => h) (fun g => absurd g (by omega))
theorem sM_arrival (hN : g_WN N) (hF : m_F N ρ) {t : Nat} (ht : t < N 0 1) (hl : ρ 5 (10 * t + (N 8 t - 1)) = nI (g_arr N C t)) (h : Q (nI (g_arr N C t)) ρ θ) : wX11_arrival (nI t) ρ θ Q := by
  have hb := hN.1.2
  have h10 := (hN.2.2.1 t ht).2.2.2.2
  have hl2 := (g_last hN ht).2
  unfold wX11_arrival
  refine sM_places hN hF ht ?_
  rw [show (nI (N 8 t) - 1 : Int32) = nI (N 8 t - 1) from nI_sub (b := 1) (by omega)]
  refine sM_spot ⟨i_in hl2 (by omega), ?_⟩
  rw [i_cl (by omega), hl]
  exact h
theorem sM_isLate (hN : g_WN N) (hW : g_WC N C) (hF : m_F N ρ) {t : Nat} (ht : t < N 0 1) (hl : ρ 5 (10 * t + (N 8 t - 1)) = nI (g_arr N C t)) (h1 : g_late N C t = true → Q 1 ρ θ) (h0 : ¬ g_late N C t = true → Q 0 ρ θ) : wX11_isLate (nI t) ρ θ Q := by
  have ha := g_arr_b hN hW ht
  have hd := (hN.2.2.1 t ht).2.1
  unfold wX11_isLate wX11_isLate_19
  refine sM_arrival hN hF ht hl (sM_dl hN hF ht ?_)
  exact i_le (by omega) (by omega) (fun g => ⟨Or.inl rfl, h0 (fun z => by have := of_decide_eq_true z; omega)⟩) (fun g => ⟨Or.inr rfl, h1 (decide_eq_true g)⟩)
theorem sM_ready (hN : g_WN N) (hC : m_C N C 0 ρ) {t q : Nat} (ht : t < N 0 1) (hq : q < N 8 t) (hT : ∀ p, p < N 8 t → ρ 5 (10 * t + p) = nI (g_lv N C (10 * t + p))) (h : Q (nI (g_rdy N C t q)) ρ θ) : wX11_readyAt (nI t) (nI q) ρ θ Q := by
  have hb := hN.1.2
  have h10 := (hN.2.2.1 t ht).2.2.2.2
  unfold wX11_readyAt wX11_readyAt_25
  refine i_ne (b := 0) (by omega) (by omega) (fun g => ?_) (fun g => ?_)
  · rw [show (nI q - 1 : Int32) = nI (q - 1) from nI_sub (b := 1) (by omega)]
    obtain ⟨hs, e1, e2, b1, -⟩ := g_is_of hN ht (show q - 1 < N 8 t by omega)
    refine sM_spot ⟨i_in b1 (by omega), ?_⟩
    rw [i_cl (by omega), hT _ (by omega)]
    have : g_lv N C (10 * t + (q - 1)) = g_rdy N C t q := by
      unfold g_lv
      rw [e1, e2, show q - 1 + 1 = q by omega]
    rw [this]
    exact h
  · subst g
    refine ⟨i_in (by omega) (by omega), ?_⟩
    rw [i_cl (by omega), m_st hC ht]
    exact h
theorem sM_allPlaces (hN : g_WN N) (hF : m_F N ρ) (h : Q (nI (g_bg N (N 0 0))) ρ θ) : wX11_allPlaces ρ θ Q := by
  have hb := hN.1.2
  unfold wX11_allPlaces
  refine x_F2 (fun _ => True) (fun i => nI (g_part N (fun _ => 1) (10 * i))) (fun i => nI i) (lo := 0) (n := N 0 1) (Nat.zero_le _) (fun K i _ hi _ hK => ?_) (fun K _ => ?_) trivial rfl rfl
  · unfold wX11_allPlaces_4
    rw [e_c1, hF.1.2]
    refine i_le (by omega) (by omega) (fun g => absurd g (by omega)) (fun _ => sM_places hN hF hi ?_)
    have hK := hK trivial
    rw [g_part_k hN hi, show g_trk N (fun _ => 1) i = N 8 i from g_sum_one _] at hK
    rw [nI_add, show (nI i + 1 : Int32) = nI (i + 1) from nI_add i 1]
    exact hK
  · unfold wX11_allPlaces_4
    rw [e_c1, hF.1.2, g_part_e hN, ← g_bg_all hN]
    exact i_le (by omega) (by omega) (fun _ => h) (fun g => absurd g (by omega))
theorem m_arr_at (hN : g_WN N) (hT : m_T N C ρ) {t : Nat} (ht : t < N 0 1) : ρ 5 (10 * t + (N 8 t - 1)) = nI (g_arr N C t) := (hT _ (g_last hN ht).1).2
theorem sM_lateSet (hN : g_WN N) (hW : g_WC N C) (hF : m_F N ρ) (hT : m_T N C ρ) (h : Q (nI (g_lset N C)) ρ θ) : wX11_lateSet ρ θ Q := by
  have hb := hN.1.2
  unfold wX11_lateSet
  refine x_F2 (fun _ => True) (fun i => nI (g_orv (fun t => g_bt (g_late N C t) t) i)) (fun i => nI i) (lo := 0) (n := N 0 1) (Nat.zero_le _) (fun K i h1 h2 _ hK => ?_) (fun K _ => ?_) trivial rfl rfl
  · unfold wX11_lateSet_4 wX11_lateSet_30
    have hK := hK trivial
    rw [g_orv] at hK
    rw [e_c1, hF.1.2, show (nI i + 1 : Int32) = nI (i + 1) from nI_add _ 1]
    refine i_le (by omega) (by omega) (fun g => absurd g (by omega)) (fun _ => sM_isLate hN hW hF h2 (m_arr_at hN hT h2) (fun z => i_one' ?_) (fun z => i_zer ?_))
    · unfold g_bt at hK
      rw [if_pos z] at hK
      rw [nI_bit _ (by omega), nI_or]
      exact hK
    · unfold g_bt at hK
      rw [if_neg z] at hK
      rw [show (nI (g_orv (fun t => g_bt (g_late N C t) t) i) ||| 0 : Int32) = _ from nI_or _ 0]
      exact hK
  · unfold wX11_lateSet_4
    rw [e_c1, hF.1.2]
    exact i_le (by omega) (by omega) (fun _ => h) (fun g => absurd g (by omega))
theorem g_top_b (hN : g_WN N) (n : Nat) : g_top N (g_tog N C) n ≤ 12 := g_mx_le (fun s _ => by
  split
  · exact g_tog_b hN s
  · omega)
theorem sM_platoons (hN : g_WN N) (hF : m_F N ρ) (hK0 : m_K N C ρ) (hP : m_P N C ρ) {v : Int32} (h0 : v = 0 → Q (nI (g_all N (fun s => g_one (g_lead2 N C s)))) ρ θ) (h1 : ¬ v = 0 → Q (nI (g_top N (g_tog N C) 120)) ρ θ) : wX11_platoons v ρ θ Q := by
  have hb := hN.1.2
  unfold wX11_platoons
  refine x_F4 (fun _ => True) (fun _ => v) (fun i => nI (g_part N (fun s => g_one (g_lead2 N C s)) (10 * i))) (fun i => nI (g_top N (g_tog N C) (10 * i))) (fun i => nI i) (lo := 0) (n := N 0 1) (Nat.zero_le _) (fun K i _ hi _ hK => ?_) (fun K _ => ?_) trivial rfl rfl rfl rfl
  · unfold wX11_platoons_7
    have h10 := (hN.2.2.1 i hi).2.2.2.2.2
    rw [e_c1, hF.1.2]
    refine i_le (by omega) (by omega) (fun g => absurd g (by omega)) (fun _ => ?_)
    refine x_F5 (fun _ => True) (fun _ => v) (fun q => nI (g_part N (fun s => g_one (g_lead2 N C s)) (10 * i + q))) (fun q => nI (g_top N (g_tog N C) (10 * i + q))) (fun _ => nI i) (fun q => nI q) (lo := 0) (n := N 8 i) (Nat.zero_le _) (fun K2 q _ hq _ hK2 => ?_) (fun K2 _ => ?_) trivial rfl rfl rfl rfl rfl
    · unfold wX11_platoons_21 wX11_platoons_67 wX11_platoons_68
      obtain ⟨hs, -, -, b1, -⟩ := g_is_of hN hi hq
      have ht := g_tog_b (C := C) hN (10 * i + q)
      have hp := g_pos_b (C := C) hN (10 * i + q)
      have hm := g_top_b (C := C) hN (10 * i + q)
      have hK2 := hK2 trivial
      rw [g_part_s hN hi hq, g_top_s hN hi hq] at hK2
      refine sM_places hN hF hi (i_le (by omega) (by omega) (fun g => absurd g (by omega)) (fun _ => sM_spot ⟨i_in b1 (by omega), ?_⟩))
      rw [i_cl (by omega), (hK0 _ hs).2, hP _ hs, show (nI q + 1 : Int32) = nI (q + 1) from nI_add q 1]
      have no : ¬ (1 < g_tog N C (10 * i + q) ∧ g_pos N C (10 * i + q) = 0) → vp_in (nI (10 * i + q)) 120 ∧ wX11_max (nI (g_top N (g_tog N C) (10 * i + q))) (nI (g_tog N C (10 * i + q))) ρ θ (fun r78 σ78 τ78 => K2 v (nI (g_part N (fun s => g_one (g_lead2 N C s)) (10 * i + q)) + 0) r78 (nI i) (nI (q + 1)) σ78 τ78) := fun z => by
        have e : g_lead2 N C (10 * i + q) = false := decide_eq_false z
        rw [show g_one (g_lead2 N C (10 * i + q)) = 0 from by rw [e]; rfl] at hK2
        refine ⟨i_in b1 (by omega), sM_max (by omega) (by omega) ?_⟩
        rw [show (nI (g_part N (fun s => g_one (g_lead2 N C s)) (10 * i + q)) + 0 : Int32) = _ from nI_add _ 0]
        exact hK2
      refine i_le (b := 1) (by omega) (by omega) (fun g => no (fun z => by omega)) (fun g => i_ne (b := 0) (by omega) (by omega) (fun g2 => no (fun z => g2 z.2)) (fun g2 => ⟨i_in b1 (by omega), sM_max (by omega) (by omega) ?_⟩))
      have e : g_lead2 N C (10 * i + q) = true := decide_eq_true ⟨g, g2⟩
      rw [show g_one (g_lead2 N C (10 * i + q)) = 1 from by rw [e]; rfl] at hK2
      rw [show (nI (g_part N (fun s => g_one (g_lead2 N C s)) (10 * i + q)) + 1 : Int32) = _ from nI_add _ 1]
      exact hK2
    · unfold wX11_platoons_21
      refine sM_places hN hF hi (i_le (by omega) (by omega) (fun _ => ?_) (fun g => absurd g (by omega)))
      rw [g_part_t hN hi, g_top_t hN hi, show (nI i + 1 : Int32) = nI (i + 1) from nI_add i 1]
      exact hK trivial
  · unfold wX11_platoons_7 wX11_platoons_103
    rw [e_c1, hF.1.2, g_part_e hN, g_top_e hN]
    exact i_le (by omega) (by omega) (fun _ => ⟨h0, h1⟩) (fun g => absurd g (by omega))
end MQ
