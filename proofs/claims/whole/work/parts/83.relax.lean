/-! relaxing: kept by both -/
/-- the least speed at a stop with which the truck is not late -/
def g_lsp (N C : g_F) (t s : Nat) : Nat := 40 + g_first (fun k => !(g_late N (g_upC C 2 s (40 + k)) t)) (C 2 s - 40)
def g_rs (N : g_F) (t i : Nat) : Nat := 10 * t + (N 8 t - 1 - i)
def g_re (N C : g_F) (t : Nat) : Nat → g_F × Nat
  | 0 => (C, 0)
  | i + 1 => (g_upC (g_re N C t i).1 2 (g_rs N t i) (g_lsp N (g_re N C t i).1 t (g_rs N t i)), (g_re N C t i).2 + (if g_lsp N (g_re N C t i).1 t (g_rs N t i) = (g_re N C t i).1 2 (g_rs N t i) then 0 else 1))
section RE
variable {N C : g_F} {w : Nat → Nat} {P : Nat → g_F} {n l f : Nat} {σ ρ : x_S} {τ θ : x_L}
theorem g_lsp_le {t s : Nat} (h : 40 ≤ C 2 s) : 40 ≤ g_lsp N C t s ∧ g_lsp N C t s ≤ C 2 s := by
  have := g_first_le (fun k => !(g_late N (g_upC C 2 s (40 + k)) t)) (C 2 s - 40)
  unfold g_lsp
  omega
theorem g_lsp_no {t s v : Nat} (h1 : 40 ≤ v) (h2 : v < g_lsp N C t s) : g_late N (g_upC C 2 s v) t = true := by
  have hle := g_first_le (fun k => !(g_late N (g_upC C 2 s (40 + k)) t)) (C 2 s - 40)
  unfold g_lsp at h2
  cases z : g_late N (g_upC C 2 s v) t with
  | true => rfl
  | false =>
    have := g_first_min (p := fun k => !(g_late N (g_upC C 2 s (40 + k)) t)) (n := C 2 s - 40) (i := v - 40) (by omega) (by
      show (!(g_late N (g_upC C 2 s (40 + (v - 40))) t)) = true
      rw [show 40 + (v - 40) = v by omega, z]
      rfl)
    omega
theorem g_lsp_yes {t s : Nat} (h : g_lsp N C t s < C 2 s) : ¬ g_late N (g_upC C 2 s (g_lsp N C t s)) t = true := fun z => by
  have := g_first_p (p := fun k => !(g_late N (g_upC C 2 s (40 + k)) t)) (n := C 2 s - 40) (by unfold g_lsp at h; omega)
  unfold g_lsp at z
  simp only [z] at this
  cases this
theorem g_re_b (N C : g_F) (t : Nat) : ∀ i, (g_re N C t i).2 ≤ i
  | 0 => Nat.le_refl _
  | i + 1 => by
    have := g_re_b N C t i
    rw [g_re]
    show (g_re N C t i).2 + (if _ then 0 else 1) ≤ i + 1
    split <;> omega
theorem g_rs_is (hN : g_WN N) {t i : Nat} (ht : t < N 0 1) (hi : i < N 8 t) : g_is N (g_rs N t i) ∧ g_rs N t i < 120 := by
  have h := g_is_of hN ht (show N 8 t - 1 - i < N 8 t by omega)
  exact ⟨h.1, h.2.2.2.1⟩
theorem g_re_W (hN : g_WN N) (hW : g_WC N C) {t : Nat} (ht : t < N 0 1) : ∀ i, i ≤ N 8 t → g_WC N (g_re N C t i).1
  | 0, _ => hW
  | i + 1, h => by
    have ih := g_re_W hN hW ht i (by omega)
    have hs := (g_rs_is hN ht (show i < N 8 t by omega)).1
    have hc := g_ch ih hs
    have hl := g_lsp_le (N := N) (C := (g_re N C t i).1) (t := t) hc.2.1
    rw [g_re]
    exact ih.v hl.1 (by omega)
/-- another speed at one place moves what comes behind it -/
theorem g_rdy_up {t q v : Nat} : ∀ p, (p ≤ q → g_rdy N (g_upC C 2 (10 * t + q) v) t p = g_rdy N C t p) ∧ (q < p → g_rdy N (g_upC C 2 (10 * t + q) v) t p + g_min N (N 9 (10 * t + q)) (C 2 (10 * t + q)) = g_rdy N C t p + g_min N (N 9 (10 * t + q)) v)
  | 0 => ⟨fun _ => rfl, fun h => absurd h (Nat.not_lt_zero _)⟩
  | p + 1 => by
    obtain ⟨h1, h2⟩ := g_rdy_up p
    have e1 : g_upC C 2 (10 * t + q) v 1 (10 * t + p) = C 1 (10 * t + p) := g_upC_n (by omega)
    constructor
    · intro hp
      rw [g_rdy, g_rdy, h1 (by omega), e1, g_upC_n (by omega)]
    · intro hp
      rw [g_rdy, g_rdy, e1]
      by_cases z : p = q
      · subst z
        rw [h1 (Nat.le_refl _), g_upC_s]
        omega
      · have := h2 (by omega)
        rw [g_upC_n (by omega)]
        omega
theorem g_arr_up (hN : g_WN N) {t q v : Nat} (ht : t < N 0 1) (hq : q < N 8 t) : g_arr N (g_upC C 2 (10 * t + q) v) t + g_min N (N 9 (10 * t + q)) (C 2 (10 * t + q)) = g_arr N C t + g_min N (N 9 (10 * t + q)) v := by
  obtain ⟨-, e1, e2, -⟩ := g_is_of hN ht (show N 8 t - 1 < N 8 t by omega)
  have := (g_rdy_up (N := N) (C := C) (t := t) (q := q) (v := v) (N 8 t - 1 + 1)).2 (by omega)
  unfold g_arr g_lv
  rw [e1, e2]
  exact this
theorem sX_least (hN : g_WN N) (hW : g_WC N C) (hF : f_F N σ) (hR : f_R N σ τ) (hC : f_C N C 33 σ) {t q : Nat} (ht : t < N 0 1) (hq : q < N 8 t) (ha : σ (33 + 5) (10 * t + (N 8 t - 1)) = nI (g_arr N C t)) {Q : Int32 → x_S → x_L → Prop} (h : Q (nI (g_lsp N C t (10 * t + q))) σ τ) : wX6_leastTimelySpeed 33 (nI t) (nI (10 * t + q)) σ τ Q := by
  obtain ⟨hs, e1, e2, c1, -⟩ := g_is_of hN ht hq
  have hb := hN.1.2
  have hrd := hN.2.2.2 t q ht hq
  have hsp := g_sp_b hN hW hs
  have hm := g_min_b hN hrd hsp.1 hsp.2
  have hab := g_arr_b hN hW ht
  have hdl := (hN.2.2.1 t ht).2.1
  have hau := fun v => g_arr_up (C := C) (v := v) hN ht hq
  obtain ⟨l1, l2⟩ := g_lsp_le (N := N) (t := t) hsp.1
  have hle : g_min N (N 9 (10 * t + q)) (C 2 (10 * t + q)) ≤ g_arr N C t := by
    have := (g_rdy_up (N := N) (C := C) (t := t) (q := q) (v := C 2 (10 * t + q)) (N 8 t - 1 + 1)).2 (by omega)
    obtain ⟨-, x1, x2, -⟩ := g_is_of hN ht (show N 8 t - 1 < N 8 t by omega)
    have hmono : ∀ c, g_rdy N C t (q + 1) ≤ g_rdy N C t (q + 1 + c) := fun c => by
      induction c with
      | zero => exact Nat.le_refl _
      | succ c ih =>
        have e : g_rdy N C t (q + 1 + c + 1) = g_rdy N C t (q + 1 + c) + C 1 (10 * t + (q + 1 + c)) + g_min N (N 9 (10 * t + (q + 1 + c))) (C 2 (10 * t + (q + 1 + c))) := rfl
        rw [← Nat.add_assoc, e]
        omega
    have h3 := hmono (N 8 t - 1 - q)
    rw [show q + 1 + (N 8 t - 1 - q) = N 8 t - 1 + 1 by omega] at h3
    rw [g_rdy] at h3
    unfold g_arr g_lv
    rw [x1, x2]
    omega
  unfold wX6_leastTimelySpeed
  refine ⟨i_in c1 (by omega), sX_arrival hN hR ht ha ?_⟩
  rw [i_cl (by omega), hF.2.2.2 _ hs, (hC.2 _ hs).2]
  refine sX_minutes hN hF hrd hsp.1 hsp.2 ?_
  rw [nI_sub hle]
  have step : ∀ (K : Int32 → Int32 → Int32 → Int32 → Int32 → x_S → x_L → Prop) v, 40 ≤ v → v ≤ C 2 (10 * t + q) → (v = C 2 (10 * t + q) → Q (nI (C 2 (10 * t + q))) σ τ) → (v < C 2 (10 * t + q) → g_late N (g_upC C 2 (10 * t + q) v) t = true → K (nI t) (nI (10 * t + q)) (nI (N 9 (10 * t + q))) (nI (g_arr N C t - g_min N (N 9 (10 * t + q)) (C 2 (10 * t + q)))) (nI (v + 1)) σ τ) → (v < C 2 (10 * t + q) → ¬ g_late N (g_upC C 2 (10 * t + q) v) t = true → Q (nI v) σ τ) → wX6_leastTimelySpeed_36 33 Q K (nI t) (nI (10 * t + q)) (nI (N 9 (10 * t + q))) (nI (g_arr N C t - g_min N (N 9 (10 * t + q)) (C 2 (10 * t + q)))) (nI v) σ τ := fun K v v1 v2 h1 h2 h3 => by
    have hv := hau v
    have hmv := g_min_b hN hrd v1 (by omega)
    unfold wX6_leastTimelySpeed_36
    refine ⟨i_in c1 (by omega), ?_⟩
    rw [i_cl (by omega), (hC.2 _ hs).2, show (nI v + 1 : Int32) = nI (v + 1) from nI_add v 1]
    refine i_le (by omega) (by omega) (fun g => h1 (by omega)) (fun g => sX_minutes hN hF hrd v1 (by omega) ⟨i_in (by omega) (by omega), ?_⟩)
    rw [i_cl (by omega), (hF.2.2.1 t ht).2.1, nI_add]
    exact i_lt (by omega) (by omega) (fun g2 => h2 g (decide_eq_true (by omega))) (fun g2 => h3 g (fun z => by have := of_decide_eq_true z; omega))
  refine x_F5 (fun _ => True) (fun _ => nI t) (fun _ => nI (10 * t + q)) (fun _ => nI (N 9 (10 * t + q))) (fun _ => nI (g_arr N C t - g_min N (N 9 (10 * t + q)) (C 2 (10 * t + q)))) (fun v => nI v) (lo := 40) (n := g_lsp N C t (10 * t + q)) l1 (fun K v v1 v2 _ hK => step K v v1 (by omega) (fun g => absurd g (by omega)) (fun _ _ => hK trivial) (fun _ z => absurd (g_lsp_no v1 v2) z)) (fun K _ => step K _ l1 l2 (fun g => ?_) (fun g z => absurd z (g_lsp_yes g)) (fun _ _ => h)) trivial rfl rfl rfl rfl rfl
  rw [← g]
  exact h
theorem e_dn (m : Nat) : (nI m + (-1) : Int32) = nI m - 1 := (Int32.sub_eq_add_neg _ _).symm
theorem sX_slowDown (hX : g_X N C w σ τ) (hH : g_Hi N P n l f σ ρ) {t : Nat} (ht : t < N 0 1) {Q : Int32 → x_S → x_L → Prop} (h : ∀ (σ' : x_S) (w' : Nat → Nat), x_E N C (g_re N C t (N 8 t)).1 l n w' σ τ σ' → Q (nI (g_re N C t (N 8 t)).2) σ' τ) : wX10_slowDown (nI t) σ τ Q := by
  obtain ⟨hN, hW, hF, hR0, hC, hA, hB⟩ := id hX
  have hb := hN.1.2
  have hb0 := hN.1.1
  have h10 := (hN.2.2.1 t ht).2.2.2.2
  obtain ⟨⟨b1, b2, b3⟩, -⟩ := id hH
  have hm1 : (l + 1) % 15 < 15 := Nat.mod_lt _ (by omega)
  unfold wX10_slowDown
  refine sX_keepE hX hH (fun σ2 hk hC2 => ⟨i_in (by omega) (by omega), ?_⟩)
  have k2 : ∀ z, z ≠ 63 → z ≠ 65 + (l + 1) % 15 → σ2 z = σ z := hk.1
  have hF2 := hF.ed (σ' := σ2) (fun z a c => k2 z (by omega) (by omega))
  have hR2 := hR0.cong (σ' := σ2) (fun z hz => k2 z (by omega) (by omega))
  rw [i_cl (by omega), hR2.1 t ht]
  refine x_S3 (fun i σ' τ' => τ = τ' ∧ (∀ z, ¬ (36 ≤ z ∧ z ≤ 38) → σ' z = σ2 z) ∧ f_C N (g_re N C t i).1 33 σ' ∧ σ' (33 + 5) (10 * t + (N 8 t - 1)) = nI (g_arr N (g_re N C t i).1 t)) (fun _ => nI t) (fun i => nI (g_re N C t i).2) (fun i => nI (10 * t + (N 8 t - i)) - 1) (lo := 0) (n := N 8 t) (Nat.zero_le _) ?_ ?_ ⟨rfl, fun _ _ => rfl, hC2, by rw [k2 (33 + 5) (by omega) (by omega)]; exact g_arr_at hX ht⟩ rfl rfl rfl
  · rintro K i σ3 τ' - hi ⟨rfl, f3, hC3, ha⟩ hK
    have hF3 := hF2.ed (σ' := σ3) (fun z a c => f3 z (by omega))
    have hR3 := hR2.cong (σ' := σ3) (fun z hz => f3 z (by omega))
    have hq : N 8 t - 1 - i < N 8 t := by omega
    obtain ⟨hs, e1, e2, c1, -⟩ := g_is_of hN ht hq
    have hWi := g_re_W hN hW ht i (by omega)
    have hsp := g_sp_b hN hWi hs
    obtain ⟨l1, l2⟩ := g_lsp_le (N := N) (C := (g_re N C t i).1) (t := t) hsp.1
    have hW1 := g_re_W hN hW ht (i + 1) (by omega)
    rw [show (nI (10 * t + (N 8 t - i)) - 1 : Int32) = nI (10 * t + (N 8 t - 1 - i)) from by
      rw [show (nI (10 * t + (N 8 t - i)) - 1 : Int32) = nI (10 * t + (N 8 t - i) - 1) from nI_sub (b := 1) (by omega)]
      congr 1
      omega]
    unfold wX10_slowDown_25 wX10_slowDown_80
    rw [show (nI t * 10 : Int32) = nI (10 * t) from e_10 t, e_dn, show 10 * t + (N 8 t - 1 - i) = 10 * t + (N 8 t - (i + 1)) by omega]
    rw [show 10 * t + (N 8 t - 1 - i) = 10 * t + (N 8 t - (i + 1)) by omega] at hs hsp c1 l1 l2
    have ers : g_rs N t i = 10 * t + (N 8 t - (i + 1)) := by unfold g_rs; omega
    have eh : g_re N C t (i + 1) = (g_upC (g_re N C t i).1 2 (10 * t + (N 8 t - (i + 1))) (g_lsp N (g_re N C t i).1 t (10 * t + (N 8 t - (i + 1)))), (g_re N C t i).2 + (if g_lsp N (g_re N C t i).1 t (10 * t + (N 8 t - (i + 1))) = (g_re N C t i).1 2 (10 * t + (N 8 t - (i + 1))) then 0 else 1)) := by
      rw [g_re, ers]
    rw [eh] at hW1
    refine i_lt (by omega) (by omega) (fun g => absurd g (by omega)) (fun _ => sX_least hN hWi hF3 hR3 hC3 ht (by omega) ha ⟨i_in c1 (by omega), ?_⟩)
    rw [i_cl (by omega), show σ3 36 (10 * t + (N 8 t - (i + 1))) = _ from (hC3.2 _ hs).2]
    refine i_eq (by omega) (by omega) (fun g => ?_) (fun g => ?_)
    · have eh2 : g_re N C t (i + 1) = ((g_re N C t i).1, (g_re N C t i).2) := by
        rw [eh, if_pos g.symm, ← g, g_upC_id]
        rfl
      have := hK σ3 τ
      rw [eh2] at this
      exact this ⟨rfl, f3, hC3, ha⟩
    · rw [if_neg (fun y => g y.symm)] at eh
      have hC4 := hC3.v hN (s := 10 * t + (N 8 t - (i + 1))) (m := g_lsp N (g_re N C t i).1 t (10 * t + (N 8 t - (i + 1))))
      refine sX_setTimes (by omega) hN hW1 (hF3.ed (fun z a c => x_up_n (by omega))) (hR3.cong (fun z hz => x_up_n (by omega))) hC4 ht (fun σ5 f5 t5 k5 => ?_)
      have := hK σ5 τ
      rw [eh] at this
      rw [show (nI (g_re N C t i).2 + 1 : Int32) = nI ((g_re N C t i).2 + 1) from nI_add _ 1]
      exact this ⟨rfl, fun z hz => by rw [f5 z (by omega) (by omega), x_up_n (by omega)]; exact f3 z hz, hC4.cong (fun z hz => f5 z (by omega) (by omega)), (t5 (N 8 t - 1) (by omega)).2⟩
  · rintro K σ3 τ' ⟨rfl, f3, hC3, ha⟩
    unfold wX10_slowDown_25
    rw [show (nI t * 10 : Int32) = nI (10 * t) from e_10 t, Nat.sub_self, Nat.add_zero]
    have lt1 : (nI (10 * t) - 1 : Int32) < nI (10 * t) := by
      rw [Int32.lt_iff_toInt_lt, show (1 : Int32) = nI 1 from rfl, e_dif (by omega) (by omega), nI_toInt (by omega)]
      omega
    exact ⟨fun _ => sX_arrE2 hX hH (g_re_W hN hW ht _ (Nat.le_refl _)) hk (fun z hz => f3 z (by omega)) hC3 h, fun g => absurd lt1 g⟩
theorem sM_relaxNow (hM : g_M N C ρ) (hH : g_Hi N P n l f σ ρ) {t : Nat} (ht : t < N 0 1) {Q : Int32 → x_S → x_L → Prop} (h : ∀ ρ' : x_S, m_E N (g_re N C t (N 8 t)).1 n f ρ ρ' → Q (nI (g_re N C t (N 8 t)).2) ρ' θ) : wX11_relaxNow (nI t) ρ θ Q := by
  obtain ⟨hN, hW, hF, hC⟩ := id hM
  have hb := hN.1.2
  have hb0 := hN.1.1
  have h10 := (hN.2.2.1 t ht).2.2.2.2
  unfold wX11_relaxNow
  refine sM_keepE hM hH (fun ρ1 hk hF1 hC1 => sM_places hN hF1 ht ?_)
  refine x_S3 (fun i ρ' θ' => θ = θ' ∧ m_fp ρ1 ρ' ∧ m_C N (g_re N C t i).1 0 ρ') (fun _ => nI t) (fun i => nI (g_re N C t i).2) (fun i => nI (N 8 t - i) - 1) (lo := 0) (n := N 8 t) (Nat.zero_le _) ?_ ?_ ⟨rfl, m_fp.rf _, hC1⟩ rfl rfl rfl
  · rintro K i ρ3 θ' - hi ⟨rfl, f3, hC3⟩ hK
    have hF3 := hF1.cong (f3.2.1 3 (by omega))
    have hq : N 8 t - (i + 1) < N 8 t := by omega
    obtain ⟨hs, e1, e2, c1, -⟩ := g_is_of hN ht hq
    have hWi := g_re_W hN hW ht i (by omega)
    have hsp := g_sp_b hN hWi hs
    have hch := g_ch hWi hs
    obtain ⟨l1, l2⟩ := g_lsp_le (N := N) (C := (g_re N C t i).1) (t := t) hsp.1
    have ers : g_rs N t i = 10 * t + (N 8 t - (i + 1)) := by unfold g_rs; omega
    have eh : g_re N C t (i + 1) = (g_upC (g_re N C t i).1 2 (10 * t + (N 8 t - (i + 1))) (g_lsp N (g_re N C t i).1 t (10 * t + (N 8 t - (i + 1)))), (g_re N C t i).2 + (if g_lsp N (g_re N C t i).1 t (10 * t + (N 8 t - (i + 1))) = (g_re N C t i).1 2 (10 * t + (N 8 t - (i + 1))) then 0 else 1)) := by
      rw [g_re, ers]
    have hK : ∀ ρ', m_fp ρ1 ρ' → m_C N (g_re N C t (i + 1)).1 0 ρ' → K (nI t) (nI (g_re N C t (i + 1)).2) (nI (N 8 t - (i + 1)) - 1) ρ' θ := fun ρ' a b => hK ρ' θ ⟨rfl, a, b⟩
    rw [eh] at hK
    generalize hs0 : 10 * t + (N 8 t - (i + 1)) = s0 at hs hsp c1 l1 l2 hK hch
    generalize hC0 : (g_re N C t i).1 = C0 at hWi hsp l1 l2 hK hch hC3
    generalize hc0 : (g_re N C t i).2 = c0 at hK
    rw [show (nI (N 8 t - i) - 1 : Int32) = nI (N 8 t - (i + 1)) from by
      rw [show (nI (N 8 t - i) - 1 : Int32) = nI (N 8 t - i - 1) from nI_sub (b := 1) (by omega)]
      congr 1]
    unfold wX11_relaxNow_14
    have speed : ρ3 1 (132 + s0) = nI (C0 2 s0) := by
      have := (hC3.2 _ hs).2
      rw [Nat.zero_add] at this
      exact this
    refine i_neg (by omega) (sM_spot ?_)
    rw [hs0, show (132 + nI s0 : Int32) = nI (132 + s0) from nI_add 132 _, i_cl (by omega), speed]
    have up : ∀ v, 40 ≤ v → v ≤ C0 2 s0 → g_WC N (g_upC C0 2 s0 v) := fun v v1 v2 => hWi.v v1 (by omega)
    have hC40 : m_C N (g_upC C0 2 s0 40) 0 (x_up ρ3 1 (132 + s0) 40) := hC3.v hN (s := s0) (m := 40) c1
    refine ⟨i_in (by omega) (by omega), sM_layTimes hN (up 40 (Nat.le_refl _) hsp.1) (hF3.cong (x_up_n (by omega))) hC40 ht (fun ρ5 f5 t5 k5 => ?_)⟩
    have p5 : m_fp ρ1 ρ5 := f3.tr ((m_fp.up1 (Or.inl (by omega))).tr ⟨fun i _ _ => by rw [f5 1 (by omega) (by omega)], fun z hz => f5 z (by omega) (by omega), fun i _ => by rw [f5 0 (by omega) (by omega)]⟩)
    refine x_S5 (fun v ρ' θ' => θ = θ' ∧ m_fp ρ1 ρ' ∧ m_C N (g_upC C0 2 s0 v) 0 ρ' ∧ ρ' 5 (10 * t + (N 8 t - 1)) = nI (g_arr N (g_upC C0 2 s0 v) t)) (fun _ => nI t) (fun _ => nI c0) (fun _ => nI (N 8 t - (i + 1))) (fun _ => nI (132 + s0)) (fun _ => nI (C0 2 s0)) (lo := 40) (n := g_lsp N C0 t s0) l1 ?_ ?_ ⟨rfl, p5, hC40.cong (f5 1 (by omega) (by omega)), (t5 (N 8 t - 1) (by omega)).2⟩ rfl rfl rfl rfl rfl
    · rintro K2 v ρ6 θ' v1 v2 ⟨rfl, f6, hC6, ha6⟩ hK2
      have hF6 := hF1.cong (f6.2.1 3 (by omega))
      have sv : ρ6 1 (132 + s0) = nI v := by
        have := (hC6.2 _ hs).2
        rw [Nat.zero_add, g_upC_s] at this
        exact this
      unfold wX11_relaxNow_52
      refine ⟨i_in (by omega) (by omega), ?_⟩
      rw [i_cl (by omega), sv]
      refine i_le (by omega) (by omega) (fun g => absurd g (by omega)) (fun _ => sM_isLate hN (up v v1 (by omega)) hF6 ht ha6 (fun _ => i_one' ?_) (fun z => absurd (g_lsp_no v1 v2) z))
      rw [sv, show (nI v + 1 : Int32) = nI (v + 1) from nI_add v 1]
      have hC7 : m_C N (g_upC C0 2 s0 (v + 1)) 0 (x_up ρ6 1 (132 + s0) (nI (v + 1))) := by
        have h7 := hC6.v hN (s := s0) (m := v + 1) c1
        have e7 : g_upC (g_upC C0 2 s0 v) 2 s0 (v + 1) = g_upC C0 2 s0 (v + 1) := by
          funext a b
          unfold g_upC
          by_cases z : a = 2 ∧ b = s0
          · rw [if_pos z, if_pos z]
          · rw [if_neg z, if_neg z, if_neg z]
        rw [e7] at h7
        exact h7
      refine sM_layTimes hN (up (v + 1) (by omega) (by omega)) (hF6.cong (x_up_n (by omega))) hC7 ht (fun ρ7 f7 t7 k7 => ?_)
      exact hK2 ρ7 θ ⟨rfl, f6.tr ((m_fp.up1 (Or.inl (by omega))).tr ⟨fun i _ _ => by rw [f7 1 (by omega) (by omega)], fun z hz => f7 z (by omega) (by omega), fun i _ => by rw [f7 0 (by omega) (by omega)]⟩), hC7.cong (f7 1 (by omega) (by omega)), (t7 (N 8 t - 1) (by omega)).2⟩
    · rintro K2 ρ6 θ' ⟨rfl, f6, hC6, ha6⟩
      have hF6 := hF1.cong (f6.2.1 3 (by omega))
      have sv : ρ6 1 (132 + s0) = nI (g_lsp N C0 t s0) := by
        have := (hC6.2 _ hs).2
        rw [Nat.zero_add, g_upC_s] at this
        exact this
      have hend : wX11_relaxNow_91 K Q (nI t) (nI c0) (nI (N 8 t - (i + 1))) (nI (132 + s0)) (nI (C0 2 s0)) ρ6 θ := by
        unfold wX11_relaxNow_91 wX11_relaxNow_109
        have := hK ρ6 f6 hC6
        refine ⟨i_in (by omega) (by omega), ?_⟩
        rw [i_cl (by omega), sv, e_dn]
        refine i_le (by omega) (by omega) (fun g => ?_) (fun g => ?_)
        · rw [if_pos (by omega)] at this
          rw [show (nI c0 + 0 : Int32) = nI (c0 + 0) from nI_add c0 0]
          exact this
        · rw [if_neg (by omega)] at this
          rw [show (nI c0 + 1 : Int32) = nI (c0 + 1) from nI_add c0 1]
          exact this
      unfold wX11_relaxNow_52
      refine ⟨i_in (by omega) (by omega), ?_⟩
      rw [i_cl (by omega), sv]
      exact i_le (by omega) (by omega) (fun _ => hend) (fun g => sM_isLate hN (up _ l1 l2) hF6 ht ha6 (fun z => absurd z (g_lsp_yes g)) (fun _ => i_zer hend))
  · rintro K ρ3 θ' ⟨rfl, f3, hC3⟩
    unfold wX11_relaxNow_14
    rw [Nat.sub_self]
    exact ⟨fun _ => h ρ3 ⟨ρ1, hk, f3, hC3⟩, fun g => absurd (show (nI 0 - 1 : Int32) < 0 by decide) g⟩
end RE
theorem z_29 : z_p29 g_R := by
  intro σ τ ρ θ hR a
  obtain ⟨N, C, w, hX, hM, hV⟩ := id hR
  obtain ⟨hN, hW, hF, hR0, hC, hA, hB⟩ := id hX
  have f0 : m_fr ρ (x_up ρ 0 5 0) := m_fr.up0 (Or.inl rfl)
  have hM0 := hM.fr f0
  have hV0 := hV.fr (x_fq.rf σ) f0
  have hR1 := hR.fr (x_fq.rf _) (rfl : τ 32 = τ 32) f0 (θ' := θ)
  obtain ⟨P, n, l, f, hH⟩ := id hV0.1
  unfold wL_relax wX10_relax
  refine sX_chkTruck hN hF (fun c => ?_) (fun c => ⟨rfl, ?_⟩)
  · obtain ⟨t, ht, rfl⟩ := id c
    refine sX_slowDown hX hH ht (fun σ' w' hE => ?_)
    unfold wX11_relax wX11_relax_19 wX11_relax_35
    refine sM_isTruck hN hM0.2.2.1 (fun _ => i_one (sM_thr0 (i_zer ?_))) (fun g => absurd c g)
    refine sM_relaxNow hM0 hH ht (fun ρ' hm => ?_)
    have E := g_R.edit (θ' := θ) hX hM0 hV0 hH hE hm
    exact q_ok E.1 (E.2.1.trans (x_up_ss _ _ _ _))
  · unfold wX11_relax wX11_relax_19 wX11_relax_35
    refine sM_isTruck hN hM0.2.2.1 (fun g => absurd g c) (fun _ => i_zer' (sM_thr1 (i_one' ?_)))
    exact q_no (hR1.fr (x_fq.rf _) rfl (m_fr.up0 (Or.inl rfl))) (x_up_ss _ _ _ _) (by decide)
