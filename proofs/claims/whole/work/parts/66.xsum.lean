/-! what the class reads of an arranged plan -/
/-- when a truck arrives -/
def g_arr (N C : g_F) (t : Nat) : Nat := g_lv N C (10 * t + (N 8 t - 1))
def g_one (p : Bool) : Nat := if p = true then 1 else 0
theorem g_one_b (p : Bool) : g_one p ≤ 1 := by
  unfold g_one
  split <;> omega
def g_late (N C : g_F) (t : Nat) : Bool := decide (N 6 t < g_arr N C t)
theorem g_fuel_b {N C : g_F} {s : Nat} (hN : g_WN N) (hC : g_WC N C) (h : g_is N s) : g_fuel N C s ≤ 153300 := by
  have := g_base_b hN hC h
  unfold g_fuel
  split <;> omega
theorem g_last {N : g_F} (hN : g_WN N) {t : Nat} (ht : t < N 0 1) : g_is N (10 * t + (N 8 t - 1)) ∧ 10 * t + (N 8 t - 1) < 120 := by
  have h := (hN.2.2.1 t ht).2.2.2.2
  have h2 := g_is_of hN ht (show N 8 t - 1 < N 8 t by omega)
  exact ⟨h2.1, h2.2.2.2.1⟩
theorem g_arr_b {N C : g_F} (hN : g_WN N) (hC : g_WC N C) {t : Nat} (ht : t < N 0 1) : g_arr N C t ≤ 8000 := (g_en_b hN hC (g_last hN ht).1).2
section XQ
variable {N C : g_F} {b : Nat} {w : Nat → Nat} {σ : x_S} {τ : x_L} {Q : Int32 → x_S → x_L → Prop}
theorem sX_arrival (hN : g_WN N) (hR : f_R N σ τ) {t : Nat} (ht : t < N 0 1) (hl : σ (b + 5) (10 * t + (N 8 t - 1)) = nI (g_arr N C t)) (h : Q (nI (g_arr N C t)) σ τ) : wX6_arrival b (nI t) σ τ Q := by
  have hb := hN.1.2
  have h10 := (hN.2.2.1 t ht).2.2.2.2
  have hl2 := (g_last hN ht).2
  unfold wX6_arrival
  rw [i_cl (by omega), hR.1 t ht, show (nI (10 * t + N 8 t) - 1 : Int32) = nI (10 * t + N 8 t - 1) from nI_sub (b := 1) (by omega), show 10 * t + N 8 t - 1 = 10 * t + (N 8 t - 1) by omega, i_cl (by omega), hl]
  exact ⟨i_in (by omega) (by omega), i_in (by omega) (by omega), h⟩
theorem sX_isLate (hN : g_WN N) (hC : g_WC N C) (hF : f_F N σ) (hR : f_R N σ τ) {t : Nat} (ht : t < N 0 1) (hl : σ (b + 5) (10 * t + (N 8 t - 1)) = nI (g_arr N C t)) (h1 : g_late N C t = true → Q 1 σ τ) (h0 : ¬ g_late N C t = true → Q 0 σ τ) : wX6_isLate b (nI t) σ τ Q := by
  have hb := hN.1.2
  have ha := g_arr_b hN hC ht
  have hd := (hN.2.2.1 t ht).2.1
  unfold wX6_isLate wX6_isLate_22
  refine sX_arrival hN hR ht hl ⟨i_in (by omega) (by omega), ?_⟩
  rw [i_cl (by omega), (hF.2.2.1 t ht).2.1]
  exact i_le (by omega) (by omega) (fun g => ⟨Or.inl rfl, h0 (fun z => by have := of_decide_eq_true z; omega)⟩) (fun g => ⟨Or.inr rfl, h1 (decide_eq_true g)⟩)
theorem sX_ready (hN : g_WN N) (hC : f_C N C b σ) (hT : f_T N C b σ) {t q : Nat} (ht : t < N 0 1) (hq : q < N 8 t) (h : Q (nI (g_rdy N C t q)) σ τ) : wX6_ready b (nI t) (nI q) σ τ Q := by
  have hb := hN.1.2
  have h10 := (hN.2.2.1 t ht).2.2.2.2
  unfold wX6_ready wX6_ready_25
  refine i_ne (b := 0) (by omega) (by omega) (fun g => ?_) (fun g => ?_)
  · rw [show (nI q - 1 : Int32) = nI (q - 1) from nI_sub (b := 1) (by omega)]
    obtain ⟨hs, e1, e2, b1, -⟩ := g_is_of hN ht (show q - 1 < N 8 t by omega)
    refine sX_stopAt ⟨i_in b1 (by omega), ?_⟩
    rw [i_cl (by omega), (hT _ hs).2]
    have : g_lv N C (10 * t + (q - 1)) = g_rdy N C t q := by
      unfold g_lv
      rw [e1, e2, show q - 1 + 1 = q by omega]
    rw [this]
    exact h
  · subst g
    refine ⟨i_in (by omega) (by omega), ?_⟩
    rw [i_cl (by omega), hC.1 t ht]
    exact h
theorem sX_allStops (hN : g_WN N) (hF : f_F N σ) (hR : f_R N σ τ) (h : Q (nI (g_bg N (N 0 0))) σ τ) : wX7_allStops σ τ Q := by
  have hb := hN.1.1
  unfold wX7_allStops
  rw [hF.1.1, i_cl (by omega), hR.2.2.1 _ (Nat.le_refl _)]
  exact ⟨i_in (by omega) (by omega), h⟩
theorem sX_fuel (hN : g_WN N) (hW : g_WC N C) (hF : f_F N σ) (hC : f_C N C 33 σ) {s p : Nat} (hs : g_is N s) (hP : f_P N C 33 p s σ) (h : Q (nI (g_fuel N C s)) σ τ) : wX6_fuel 33 (nI s) σ τ Q := by
  have hl := g_is_lt hN hs
  have hsv := g_sav_b hN hW hs
  unfold wX6_fuel wX6_fuel_28
  refine sX_base (by omega) hN hW hF hC hs ⟨i_in hl (by omega), ?_⟩
  obtain ⟨-, -, -, h4, h5⟩ := hP
  rw [i_cl (by omega), show σ (33 + 12) s = _ from h5, show σ (33 + 11) s = _ from h4, nI_sub hsv.1]
  unfold g_fuel at h
  by_cases z : g_clo N C s = true
  · rw [if_pos z] at h ⊢
    refine i_one' ?_
    rw [show (nI (g_base N C s - g_sav N C s) + 300 : Int32) = nI (g_base N C s - g_sav N C s + 300) from nI_add _ 300, show g_base N C s - g_sav N C s + 300 = g_base N C s + 300 - g_sav N C s by omega]
    exact h
  · rw [if_neg z] at h ⊢
    refine i_zer ?_
    rw [show (nI (g_base N C s - g_sav N C s) + 0 : Int32) = nI (g_base N C s - g_sav N C s + 0) from nI_add _ 0, show g_base N C s - g_sav N C s + 0 = g_base N C s + 0 - g_sav N C s by omega]
    exact h
theorem e_10 (t : Nat) : (nI t * 10 : Int32) = nI (10 * t + 0) := by
  show nI t * nI 10 = _
  rw [nI_mul, Nat.mul_comm]
  rfl
theorem sX_km (hN : g_WN N) (hF : f_F N σ) {t : Nat} (ht : t < N 0 1) (h : Q (nI (g_trk N (fun s => N 3 (N 9 s)) t)) σ τ) : wX1_kilometers (nI t) σ τ Q := by
  have hb := hN.1.2
  have hb0 := hN.1.1
  have h10 := (hN.2.2.1 t ht).2.2.2.2
  unfold wX1_kilometers
  refine x_F3 (fun _ => True) (fun _ => nI t) (fun i => nI (g_sum (fun q => N 3 (N 9 (10 * t + q))) i)) (fun i => nI i) (lo := 0) (n := N 8 t) (Nat.zero_le _) (fun K i _ hi _ hK => ?_) (fun K _ => ?_) trivial rfl rfl rfl
  · unfold wX1_kilometers_4
    refine ⟨i_in (by omega) (by omega), ?_⟩
    rw [i_cl (by omega), (hF.2.2.1 t ht).2.2.2]
    refine i_le (by omega) (by omega) (fun g => absurd g (by omega)) (fun _ => sX_stopAt ?_)
    obtain ⟨hs, -, -, b1, -⟩ := g_is_of hN ht hi
    have hr := hN.2.2.2 t i ht hi
    rw [i_cl (by omega), hF.2.2.2 _ hs, i_cl (by omega), (hF.2.1 _ hr).2.2.1, nI_add, show (nI i + 1 : Int32) = nI (i + 1) from nI_add i 1]
    exact ⟨i_in b1 (by omega), i_in (by omega) (by omega), hK trivial⟩
  · unfold wX1_kilometers_4
    refine ⟨i_in (by omega) (by omega), ?_⟩
    rw [i_cl (by omega), (hF.2.2.1 t ht).2.2.2]
    exact i_le (by omega) (by omega) (fun _ => h) (fun g => absurd g (by omega))
theorem sX_fuelOf (hX : g_X N C w σ τ) {t : Nat} (ht : t < N 0 1) (h : Q (nI (g_trk N (g_fuel N C) t)) σ τ) : wX6_fuelOf 33 (nI t) σ τ Q := by
  obtain ⟨hN, hW, hF, hR, hC, hA, hB⟩ := hX
  have hb := hN.1.2
  have h10 := (hN.2.2.1 t ht).2.2.2.2
  unfold wX6_fuelOf
  refine x_F3 (fun _ => True) (fun _ => nI t) (fun i => nI (g_sum (fun q => g_fuel N C (10 * t + q)) i)) (fun i => nI (10 * t + i)) (lo := 0) (n := N 8 t) (Nat.zero_le _) (fun K i _ hi _ hK => ?_) (fun K _ => ?_) trivial rfl rfl (e_10 t)
  · unfold wX6_fuelOf_7
    refine ⟨i_in (by omega) (by omega), ?_⟩
    rw [i_cl (by omega), hR.1 t ht]
    refine i_le (by omega) (by omega) (fun g => absurd g (by omega)) (fun _ => ?_)
    obtain ⟨hs, -, -, b1, -⟩ := g_is_of hN ht hi
    refine sX_fuel hN hW hF hC hs (hA.2.2.2.2.1 _ hs).2 ?_
    rw [nI_add, show (nI (10 * t + i) + 1 : Int32) = nI (10 * t + (i + 1)) from nI_add _ 1]
    exact hK trivial
  · unfold wX6_fuelOf_7
    refine ⟨i_in (by omega) (by omega), ?_⟩
    rw [i_cl (by omega), hR.1 t ht]
    exact i_le (by omega) (by omega) (fun _ => h) (fun g => absurd g (by omega))
theorem sX_savedBy (hX : g_X N C w σ τ) {t : Nat} (ht : t < N 0 1) (h : Q (nI (g_trk N (g_sav N C) t)) σ τ) : wX6_savedBy 33 (nI t) σ τ Q := by
  obtain ⟨hN, hW, hF, hR, hC, hA, hB⟩ := hX
  have hb := hN.1.2
  have h10 := (hN.2.2.1 t ht).2.2.2.2
  unfold wX6_savedBy
  refine x_F3 (fun _ => True) (fun _ => nI t) (fun i => nI (g_sum (fun q => g_sav N C (10 * t + q)) i)) (fun i => nI (10 * t + i)) (lo := 0) (n := N 8 t) (Nat.zero_le _) (fun K i _ hi _ hK => ?_) (fun K _ => ?_) trivial rfl rfl (e_10 t)
  · unfold wX6_savedBy_7
    refine ⟨i_in (by omega) (by omega), ?_⟩
    rw [i_cl (by omega), hR.1 t ht]
    refine i_le (by omega) (by omega) (fun g => absurd g (by omega)) (fun _ => ?_)
    obtain ⟨hs, -, -, b1, -⟩ := g_is_of hN ht hi
    rw [i_cl (by omega), show σ (33 + 11) (10 * t + i) = _ from (hA.2.2.2.2.1 _ hs).2.2.2.2.1, nI_add, show (nI (10 * t + i) + 1 : Int32) = nI (10 * t + (i + 1)) from nI_add _ 1]
    exact ⟨i_in b1 (by omega), hK trivial⟩
  · unfold wX6_savedBy_7
    refine ⟨i_in (by omega) (by omega), ?_⟩
    rw [i_cl (by omega), hR.1 t ht]
    exact i_le (by omega) (by omega) (fun _ => h) (fun g => absurd g (by omega))
theorem sX_closedBy (hX : g_X N C w σ τ) {t : Nat} (ht : t < N 0 1) (h : Q (nI (g_trk N (fun s => g_one (g_clo N C s)) t)) σ τ) : wX6_closedBy 33 (nI t) σ τ Q := by
  obtain ⟨hN, hW, hF, hR, hC, hA, hB⟩ := hX
  have hb := hN.1.2
  have h10 := (hN.2.2.1 t ht).2.2.2.2
  unfold wX6_closedBy
  refine x_F3 (fun _ => True) (fun _ => nI t) (fun i => nI (g_sum (fun q => g_one (g_clo N C (10 * t + q))) i)) (fun i => nI (10 * t + i)) (lo := 0) (n := N 8 t) (Nat.zero_le _) (fun K i _ hi _ hK => ?_) (fun K _ => ?_) trivial rfl rfl (e_10 t)
  · unfold wX6_closedBy_7 wX6_closedBy_32
    refine ⟨i_in (by omega) (by omega), ?_⟩
    rw [i_cl (by omega), hR.1 t ht]
    refine i_le (by omega) (by omega) (fun g => absurd g (by omega)) (fun _ => ?_)
    obtain ⟨hs, -, -, b1, -⟩ := g_is_of hN ht hi
    have hK := hK trivial
    rw [g_sum] at hK
    rw [i_cl (by omega), show σ (33 + 12) (10 * t + i) = _ from (hA.2.2.2.2.1 _ hs).2.2.2.2.2, show (nI (10 * t + i) + 1 : Int32) = nI (10 * t + (i + 1)) from nI_add _ 1]
    refine ⟨i_in b1 (by omega), ?_⟩
    unfold g_one at hK ⊢
    by_cases z : g_clo N C (10 * t + i) = true
    · rw [if_pos z] at hK ⊢
      refine i_one' ?_
      rw [show (nI (g_sum (fun q => if g_clo N C (10 * t + q) = true then 1 else 0) i) + 1 : Int32) = _ from nI_add _ 1]
      exact hK
    · rw [if_neg z] at hK ⊢
      exact i_zer hK
  · unfold wX6_closedBy_7
    refine ⟨i_in (by omega) (by omega), ?_⟩
    rw [i_cl (by omega), hR.1 t ht]
    exact i_le (by omega) (by omega) (fun _ => h) (fun g => absurd g (by omega))
/-- along a piece of the row -/
theorem sX_savedOnRows (hX : g_X N C w σ τ) {lo hi : Nat} (hlo : lo ≤ hi) (hhi : hi ≤ g_bg N (N 0 0)) (h : Q (nI (g_sum (fun j => g_sav N C (w (lo + j))) (hi - lo))) σ τ) : wX6_savedOnRows 33 (nI lo) (nI hi) σ τ Q := by
  obtain ⟨hN, hW, hF, hR, hC, hA, hB⟩ := hX
  have hb := g_bg_b N (N 0 0)
  unfold wX6_savedOnRows
  refine x_F3 (fun _ => True) (fun _ => nI hi) (fun i => nI (g_sum (fun j => g_sav N C (w (lo + j))) (i - lo))) (fun i => nI i) (lo := lo) (n := hi) hlo (fun K i h1 h2 _ hK => ?_) (fun K _ => ?_) trivial rfl (by rw [Nat.sub_self]; rfl) rfl
  · unfold wX6_savedOnRows_5
    refine i_le (by omega) (by omega) (fun g => absurd g (by omega)) (fun _ => ?_)
    have hs := hA.2.2.1.is (show i < g_bg N (N 0 0) by omega)
    have hl := g_is_lt hN hs
    have hK := hK trivial
    rw [show i + 1 - lo = (i - lo) + 1 by omega, g_sum, show lo + (i - lo) = i by omega] at hK
    rw [i_cl (by omega), show σ (33 + 6) i = _ from hA.2.1 i (by omega), i_cl (by omega), show σ (33 + 11) (w i) = _ from (hA.2.2.2.2.1 _ hs).2.2.2.2.1, nI_add, show (nI i + 1 : Int32) = nI (i + 1) from nI_add _ 1]
    exact ⟨i_in (by omega) (by omega), i_in (by omega) (by omega), hK⟩
  · unfold wX6_savedOnRows_5
    exact i_le (by omega) (by omega) (fun _ => h) (fun g => absurd g (by omega))
theorem sX_closedOnRows (hX : g_X N C w σ τ) {lo hi : Nat} (hlo : lo ≤ hi) (hhi : hi ≤ g_bg N (N 0 0)) (h : Q (nI (g_sum (fun j => g_one (g_clo N C (w (lo + j)))) (hi - lo))) σ τ) : wX6_closedOnRows 33 (nI lo) (nI hi) σ τ Q := by
  obtain ⟨hN, hW, hF, hR, hC, hA, hB⟩ := hX
  have hb := g_bg_b N (N 0 0)
  unfold wX6_closedOnRows
  refine x_F3 (fun _ => True) (fun _ => nI hi) (fun i => nI (g_sum (fun j => g_one (g_clo N C (w (lo + j)))) (i - lo))) (fun i => nI i) (lo := lo) (n := hi) hlo (fun K i h1 h2 _ hK => ?_) (fun K _ => ?_) trivial rfl (by rw [Nat.sub_self]; rfl) rfl
  · unfold wX6_closedOnRows_5 wX6_closedOnRows_29
    refine i_le (by omega) (by omega) (fun g => absurd g (by omega)) (fun _ => ?_)
    have hs := hA.2.2.1.is (show i < g_bg N (N 0 0) by omega)
    have hl := g_is_lt hN hs
    have hK := hK trivial
    rw [show i + 1 - lo = (i - lo) + 1 by omega, g_sum, show lo + (i - lo) = i by omega] at hK
    rw [i_cl (by omega), show σ (33 + 6) i = _ from hA.2.1 i (by omega), i_cl (by omega), show σ (33 + 12) (w i) = _ from (hA.2.2.2.2.1 _ hs).2.2.2.2.2, show (nI i + 1 : Int32) = nI (i + 1) from nI_add _ 1]
    refine ⟨i_in (by omega) (by omega), i_in (by omega) (by omega), ?_⟩
    unfold g_one at hK ⊢
    by_cases z : g_clo N C (w i) = true
    · rw [if_pos z] at hK ⊢
      refine i_one' ?_
      rw [show (nI (g_sum (fun j => if g_clo N C (w (lo + j)) = true then 1 else 0) (i - lo)) + 1 : Int32) = _ from nI_add _ 1]
      exact hK
    · rw [if_neg z] at hK ⊢
      exact i_zer hK
  · unfold wX6_closedOnRows_5
    exact i_le (by omega) (by omega) (fun _ => h) (fun g => absurd g (by omega))
theorem sX_trucksOnRows (hX : g_X N C w σ τ) {lo hi : Nat} (hlo : lo ≤ hi) (hhi : hi ≤ g_bg N (N 0 0)) (h : Q (nI (g_orv (fun j => 2 ^ (w (lo + j) / 10)) (hi - lo))) σ τ) : wX6_trucksOnRows 33 (nI lo) (nI hi) σ τ Q := by
  obtain ⟨hN, hW, hF, hR, hC, hA, hB⟩ := hX
  have hb := g_bg_b N (N 0 0)
  have hb12 := hN.1.2
  unfold wX6_trucksOnRows
  refine x_F3 (fun _ => True) (fun _ => nI hi) (fun i => nI (g_orv (fun j => 2 ^ (w (lo + j) / 10)) (i - lo))) (fun i => nI i) (lo := lo) (n := hi) hlo (fun K i h1 h2 _ hK => ?_) (fun K _ => ?_) trivial rfl (by rw [Nat.sub_self]; rfl) rfl
  · unfold wX6_trucksOnRows_5
    refine i_le (by omega) (by omega) (fun g => absurd g (by omega)) (fun _ => ?_)
    have hs := hA.2.2.1.is (show i < g_bg N (N 0 0) by omega)
    have hl := g_is_lt hN hs
    have ht := hs.1
    have hK := hK trivial
    rw [show i + 1 - lo = (i - lo) + 1 by omega, g_orv, show lo + (i - lo) = i by omega] at hK
    rw [i_cl (by omega), show σ (33 + 6) i = _ from hA.2.1 i (by omega), show (nI (w i) / 10 : Int32) = nI (w i / 10) from nI_div (b := 10) (by omega) (by omega) (by omega), nI_bit _ (by omega), nI_or, show (nI i + 1 : Int32) = nI (i + 1) from nI_add _ 1]
    exact ⟨i_in (by omega) (by omega), hK⟩
  · unfold wX6_trucksOnRows_5
    exact i_le (by omega) (by omega) (fun _ => h) (fun g => absurd g (by omega))
theorem sX_allBases (hX : g_X N C w σ τ) (h : Q (nI (g_all N (g_base N C))) σ τ) : wX6_allBases 33 σ τ Q := by
  obtain ⟨hN, hW, hF, hR, hC, hA, hB⟩ := hX
  have hb := g_bg_b N (N 0 0)
  rw [g_all_row hN hA.2.2.1] at h
  unfold wX6_allBases
  refine x_F2 (fun _ => True) (fun i => nI (g_sum (fun j => g_base N C (w j)) i)) (fun i => nI i) (lo := 0) (n := g_bg N (N 0 0)) (Nat.zero_le _) (fun K i h1 h2 _ hK => ?_) (fun K _ => ?_) trivial rfl rfl
  · unfold wX6_allBases_4
    refine sX_allStops hN hF hR (i_le (by omega) (by omega) (fun g => absurd g (by omega)) (fun _ => ?_))
    have hs := hA.2.2.1.is (show i < g_bg N (N 0 0) by omega)
    rw [i_cl (by omega), show σ (33 + 6) i = _ from hA.2.1 i (by omega)]
    refine ⟨i_in (by omega) (by omega), sX_base (by omega) hN hW hF hC hs ?_⟩
    rw [nI_add, show (nI i + 1 : Int32) = nI (i + 1) from nI_add _ 1]
    exact hK trivial
  · unfold wX6_allBases_4
    exact sX_allStops hN hF hR (i_le (by omega) (by omega) (fun _ => h) (fun g => absurd g (by omega)))
theorem g_arr_at (hX : g_X N C w σ τ) {t : Nat} (ht : t < N 0 1) : σ (33 + 5) (10 * t + (N 8 t - 1)) = nI (g_arr N C t) := (hX.2.2.2.2.2.1.1 _ (g_last hX.1 ht).1).2
def g_lset (N C : g_F) : Nat := g_orv (fun t => g_bt (g_late N C t) t) (N 0 1)
theorem g_lset_lt (hN : g_WN N) : g_lset N C < 4096 := g_orv_lt (fun i hi => g_bt_lt (by have := hN.1.2; omega))
theorem sX_lateSet (hX : g_X N C w σ τ) (h : Q (nI (g_lset N C)) σ τ) : wX10_lateSet σ τ Q := by
  have ha := @g_arr_at N C w σ τ hX
  obtain ⟨hN, hW, hF, hR, hC, hA, hB⟩ := hX
  have hb := hN.1.2
  unfold wX10_lateSet
  refine x_F2 (fun _ => True) (fun i => nI (g_orv (fun t => g_bt (g_late N C t) t) i)) (fun i => nI i) (lo := 0) (n := N 0 1) (Nat.zero_le _) (fun K i h1 h2 _ hK => ?_) (fun K _ => ?_) trivial rfl rfl
  · unfold wX10_lateSet_4 wX10_lateSet_32
    have hK := hK trivial
    rw [g_orv] at hK
    rw [hF.1.2, show (nI i + 1 : Int32) = nI (i + 1) from nI_add _ 1]
    refine i_le (by omega) (by omega) (fun g => absurd g (by omega)) (fun _ => sX_isLate hN hW hF hR h2 (ha h2) (fun z => i_one' ?_) (fun z => i_zer ?_))
    · unfold g_bt at hK
      rw [if_pos z] at hK
      rw [nI_bit _ (by omega), nI_or]
      exact hK
    · unfold g_bt at hK
      rw [if_neg z, Nat.or_zero] at hK
      exact hK
  · unfold wX10_lateSet_4
    rw [hF.1.2]
    exact i_le (by omega) (by omega) (fun _ => h) (fun g => absurd g (by omega))
/-- two are in a platoon when the key is above 0 -/
theorem g_shr_pos {s s' : Nat} (h : N 9 s = N 9 s') : 0 < g_shr N s s' := by
  unfold g_shr
  rw [g_shf, if_pos h]
  split <;> omega
theorem g_key_tog (hN : g_WN N) (hW : g_WC N C) {s : Nat} (hs : g_is N s) : 0 < g_key N C s ↔ 1 < g_tog N C s := by
  have hself := g_has_self hN hW hs
  constructor
  · intro h
    obtain ⟨o, ho, h2⟩ : ∃ o, o < N 0 1 ∧ o ≠ s / 10 ∧ g_has N C s o = true := by
      apply Classical.byContradiction
      intro hn
      have : g_key N C s ≤ 0 := g_mx_le (fun o ho => by
        rw [if_neg (fun z => hn ⟨o, ho, z⟩)]
        exact Nat.le_refl _)
      omega
    have h0 : g_cnt (fun x => decide (x = s / 10)) (N 0 1) = 1 := g_cnt_one hs.1 (decide_eq_true rfl) (fun i _ hi => of_decide_eq_true hi)
    have h1 : g_cnt (fun x => decide (x = s / 10)) (N 0 1) < g_tog N C s := g_cnt_lt (a := o) (fun i _ hi => by rw [of_decide_eq_true hi]; exact hself.1) ho (decide_eq_false h2.1) h2.2
    omega
  · intro h
    obtain ⟨o, ho, h2⟩ : ∃ o, o < N 0 1 ∧ o ≠ s / 10 ∧ g_has N C s o = true := by
      apply Classical.byContradiction
      intro hn
      have : g_tog N C s ≤ 1 := by
        have := g_cnt_one (p := fun o => g_has N C s o) hs.1 hself.1 (fun i hi hp => Classical.byContradiction fun z => hn ⟨i, hi, z, hp⟩)
        unfold g_tog
        omega
      omega
    have h3 := g_le_mx (f := fun o => if o ≠ s / 10 ∧ g_has N C s o = true then g_shr N s (g_ms N C s o) else 0) ho
    have h4 := g_shr_pos (g_mt_iff.mp (g_has_mt h2.2)).1
    simp only [if_pos h2] at h3
    unfold g_key
    omega
theorem sX_inCompany (hX : g_X N C w σ τ) {s : Nat} (hs : g_is N s) (h1 : 1 < g_tog N C s → Q 1 σ τ) (h0 : ¬ 1 < g_tog N C s → Q 0 σ τ) : wX6_inCompany 33 (nI s) σ τ Q := by
  obtain ⟨hN, hW, hF, hR, hC, hA, hB⟩ := hX
  have hl := g_is_lt hN hs
  have hk := g_key_b (N := N) (C := C) s
  unfold wX6_inCompany wX6_inCompany_14
  rw [i_cl (by omega), show σ (33 + 9) s = _ from (hA.2.2.2.2.1 _ hs).1]
  exact ⟨i_in hl (by omega), i_le (b := 0) (by omega) (by omega) (fun g => ⟨Or.inl rfl, h0 (fun z => by have := (g_key_tog hN hW hs).mpr z; omega)⟩) (fun g => ⟨Or.inr rfl, h1 ((g_key_tog hN hW hs).mp g)⟩)⟩
/-- a platoon of two or more begins here -/
def g_lead2 (N C : g_F) (s : Nat) : Bool := decide (1 < g_tog N C s ∧ g_pos N C s = 0)
theorem sX_companies (hX : g_X N C w σ τ) (h : Q (nI (g_all N (fun s => g_one (g_lead2 N C s)))) σ τ) : wX10_companies σ τ Q := by
  have hX0 := hX
  obtain ⟨hN, hW, hF, hR, hC, hA, hB⟩ := hX
  have hb := g_bg_b N (N 0 0)
  rw [g_all_row hN hA.2.2.1] at h
  unfold wX10_companies
  refine x_F2 (fun _ => True) (fun i => nI (g_sum (fun j => g_one (g_lead2 N C (w j))) i)) (fun i => nI i) (lo := 0) (n := g_bg N (N 0 0)) (Nat.zero_le _) (fun K i h1 h2 _ hK => ?_) (fun K _ => ?_) trivial rfl rfl
  · unfold wX10_companies_4 wX10_companies_51
    have hK := hK trivial
    rw [g_sum] at hK
    refine sX_allStops hN hF hR (i_le (by omega) (by omega) (fun g => absurd g (by omega)) (fun _ => ?_))
    have hs := hA.2.2.1.is (show i < g_bg N (N 0 0) by omega)
    have hl := g_is_lt hN hs
    have hp := g_pos_b (C := C) hN (w i)
    rw [i_cl (by omega), show σ 39 i = _ from hA.2.1 i (by omega), i_cl (by omega), show σ 41 (w i) = _ from (hA.2.2.2.2.1 _ hs).2.2.1, show (nI i + 1 : Int32) = nI (i + 1) from nI_add _ 1]
    have no : ¬ (1 < g_tog N C (w i) ∧ g_pos N C (w i) = 0) → K (nI (g_sum (fun j => g_one (g_lead2 N C (w j))) i)) (nI (i + 1)) σ τ := fun z => by
      have e : g_lead2 N C (w i) = false := decide_eq_false z
      rw [show g_one (g_lead2 N C (w i)) = 0 from by rw [e]; rfl] at hK
      exact hK
    refine ⟨i_in (by omega) (by omega), i_in (by omega) (by omega), i_ne (b := 0) (by omega) (by omega) (fun g => no (fun z => g z.2)) (fun g => sX_inCompany hX0 hs (fun z => i_one' ?_) (fun z => i_zer (no (fun y => z y.1))))⟩
    have e : g_lead2 N C (w i) = true := decide_eq_true ⟨z, g⟩
    rw [show g_one (g_lead2 N C (w i)) = 1 from by rw [e]; rfl] at hK
    rw [show (nI (g_sum (fun j => g_one (g_lead2 N C (w j))) i) + 1 : Int32) = _ from nI_add _ 1]
    exact hK
  · unfold wX10_companies_4
    exact sX_allStops hN hF hR (i_le (by omega) (by omega) (fun _ => h) (fun g => absurd g (by omega)))
/-- the greatest of all stops -/
def g_top (N : g_F) (f : Nat → Nat) (n : Nat) : Nat := g_mx (fun s => if s / 10 < N 0 1 ∧ s % 10 < N 8 (s / 10) then f s else 0) n
theorem g_top_row (hN : g_WN N) (hE : g_E N w) (f : Nat → Nat) : g_top N f 120 = g_mx (fun i => f (w i)) (g_bg N (N 0 0)) := by
  unfold g_top
  rw [g_mx_enum (row := w) (m := g_bg N (N 0 0)) (fun i hi => g_is_lt hN (hE.is hi)) (fun s hs hf => ?_)]
  · exact g_mx_congr (fun i hi => if_pos (hE.is hi))
  · refine hE.ex hN ?_
    apply Classical.byContradiction
    intro hn
    exact hf (if_neg hn)
theorem g_top_pos (hN : g_WN N) (hW : g_WC N C) : g_top N (fun s => g_pos N C s + 1) 120 = g_top N (g_tog N C) 120 := by
  apply Nat.le_antisymm
  · refine g_mx_le (fun s hs => ?_)
    refine Nat.le_trans ?_ (g_le_mx (f := fun s => if s / 10 < N 0 1 ∧ s % 10 < N 8 (s / 10) then g_tog N C s else 0) hs)
    by_cases z : s / 10 < N 0 1 ∧ s % 10 < N 8 (s / 10)
    · simp only [if_pos z]
      exact g_pos_lt hN hW z
    · simp only [if_neg z]
      exact Nat.le_refl _
  · refine g_mx_le (fun s hs => ?_)
    by_cases z : s / 10 < N 0 1 ∧ s % 10 < N 8 (s / 10)
    · have h0 := g_tog_pos hN hW z
      obtain ⟨-, -, h3, h4, -, -⟩ := g_mem_at hN hW (s := s) (show g_tog N C s - 1 < g_tog N C s by omega)
      have h5 : (if g_mst N C s (g_tog N C s - 1) / 10 < N 0 1 ∧ g_mst N C s (g_tog N C s - 1) % 10 < N 8 (g_mst N C s (g_tog N C s - 1) / 10) then g_pos N C (g_mst N C s (g_tog N C s - 1)) + 1 else 0) ≤ g_top N (fun s => g_pos N C s + 1) 120 := g_le_mx (f := fun s => if s / 10 < N 0 1 ∧ s % 10 < N 8 (s / 10) then g_pos N C s + 1 else 0) (g_is_lt hN h4)
      have h6 : g_mst N C s (g_tog N C s - 1) / 10 < N 0 1 ∧ g_mst N C s (g_tog N C s - 1) % 10 < N 8 (g_mst N C s (g_tog N C s - 1) / 10) := h4
      rw [if_pos h6, h3] at h5
      simp only [if_pos z]
      omega
    · simp only [if_neg z]
      exact Nat.zero_le _
theorem sX_greatest (hX : g_X N C w σ τ) (h : Q (nI (g_top N (g_tog N C) 120)) σ τ) : wX10_greatestPlatoon σ τ Q := by
  obtain ⟨hN, hW, hF, hR, hC, hA, hB⟩ := hX
  have hb := g_bg_b N (N 0 0)
  rw [← g_top_pos hN hW, g_top_row hN hA.2.2.1] at h
  have hmb : ∀ i, i ≤ g_bg N (N 0 0) → g_mx (fun i => g_pos N C (w i) + 1) i ≤ 13 := fun i _ => g_mx_le (fun j _ => by have := g_pos_b (C := C) hN (w j); omega)
  unfold wX10_greatestPlatoon
  refine x_F2 (fun _ => True) (fun i => nI (g_mx (fun i => g_pos N C (w i) + 1) i)) (fun i => nI i) (lo := 0) (n := g_bg N (N 0 0)) (Nat.zero_le _) (fun K i h1 h2 _ hK => ?_) (fun K _ => ?_) trivial rfl rfl
  · unfold wX10_greatestPlatoon_4
    refine sX_allStops hN hF hR (i_le (by omega) (by omega) (fun g => absurd g (by omega)) (fun _ => ?_))
    have hs := hA.2.2.1.is (show i < g_bg N (N 0 0) by omega)
    have hl := g_is_lt hN hs
    have hp := g_pos_b (C := C) hN (w i)
    have hm := hmb i (by omega)
    rw [i_cl (by omega), show σ 39 i = _ from hA.2.1 i (by omega), i_cl (by omega), show σ 41 (w i) = _ from (hA.2.2.2.2.1 _ hs).2.2.1, show (nI i + 1 : Int32) = nI (i + 1) from nI_add _ 1, show (nI (g_pos N C (w i)) + 1 : Int32) = nI (g_pos N C (w i) + 1) from nI_add _ 1, nI_max (by omega) (by omega)]
    exact ⟨i_in (by omega) (by omega), i_in (by omega) (by omega), hK trivial⟩
  · unfold wX10_greatestPlatoon_4
    exact sX_allStops hN hF hR (i_le (by omega) (by omega) (fun _ => h) (fun g => absurd g (by omega)))
end XQ
