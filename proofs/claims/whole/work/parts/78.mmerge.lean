/-! two trucks merged by the reference -/
section MJ
variable {N C : g_F} {ρ : x_S} {θ : x_L}
theorem sM_maxd {p q : Nat} (hp : p < 1000000) (hq : q < 1000000) {Q : Int32 → x_S → x_L → Prop} (h : Q (nI (p - q)) ρ θ) : wX11_max (nI p - nI q) 0 ρ θ Q := by
  unfold wX11_max wX11_max_10
  by_cases z : q ≤ p
  · rw [nI_sub z]
    refine i_le (b := 0) (by omega) (by omega) (fun g => ?_) (fun _ => h)
    rw [show p - q = 0 by omega] at h
    exact h
  · rw [show p - q = 0 by omega] at h
    refine ⟨fun _ => h, fun g => absurd ?_ g⟩
    rw [Int32.le_iff_toInt_le, e_dif hp hq, show (0 : Int32).toInt = 0 from by decide]
    omega
theorem sM_rng {p q : Nat} (hp : p < 1000000) (hq : q < 1000000) {Q : Int32 → x_S → x_L → Prop} (h1 : q - p ≤ 120 ∧ p - q ≤ 120 → Q 1 ρ θ) (h0 : ¬ (q - p ≤ 120 ∧ p - q ≤ 120) → Q 0 ρ θ) : wX11_inRange ((nI p - nI q : Int32).toInt64) (-120) 120 ρ θ Q := by
  unfold wX11_inRange wX11_inRange_17 wX11_inRange_18
  rw [lg_cmp_lt, lg_cmp_gt, Int64.lt_iff_toInt_lt, Int64.lt_iff_toInt_lt, Int32.toInt_toInt64, e_dif hp hq, show (-120 : Int64).toInt = -120 from by decide, show (120 : Int64).toInt = 120 from by decide]
  exact ⟨fun g => ⟨Or.inl rfl, h0 (by omega)⟩, fun g => ⟨fun g2 => ⟨Or.inl rfl, h0 (by omega)⟩, fun g2 => ⟨Or.inr rfl, h1 (by omega)⟩⟩⟩
theorem m_mr_step {s m d1 d2 L k : Nat} {ρ1 : x_S} (hN : g_WN N) (hs : s + L ≤ 120) (hm : m + L ≤ 120) (hd : s + L ≤ m ∨ m + L ≤ s) (hk : k < L) (g : m_C N (g_mrL C s m d1 d2 k) 0 ρ1) : m_C N (g_mrL C s m d1 d2 (k + 1)) 0 (x_up (x_up (x_up (x_up ρ1 1 (132 + (s + k)) (nI (min (C 2 (s + k)) (C 2 (m + k))))) 1 (132 + (m + k)) (nI (min (C 2 (s + k)) (C 2 (m + k))))) 1 (12 + (s + k)) (nI (if k = 0 then d1 else 0))) 1 (12 + (m + k)) (nI (if k = 0 then d2 else 0))) := by
  refine ⟨fun t ht => ?_, fun x hx => ?_⟩
  · have := g_is_b12 hN ht
    rw [x_up_sn (by omega), x_up_sn (by omega), x_up_sn (by omega), x_up_sn (by omega)]
    exact g.1 t ht
  · have hx2 := g_is_lt hN hx
    obtain ⟨g1, g2⟩ := g.2 x hx
    rw [Nat.zero_add] at g1 g2
    rw [Nat.zero_add, Nat.zero_add]
    have a1 : ∀ v1 v2 : Int32, (x_up (x_up (x_up (x_up ρ1 1 (132 + (s + k)) v1) 1 (132 + (m + k)) v1) 1 (12 + (s + k)) (nI (if k = 0 then d1 else 0))) 1 (12 + (m + k)) v2) 1 (132 + x) = (x_up (x_up ρ1 1 (132 + (s + k)) v1) 1 (132 + (m + k)) v1) 1 (132 + x) := fun v1 v2 => by rw [x_up_sn (by omega), x_up_sn (by omega)]
    rw [a1]
    by_cases c1 : x = s + k
    · subst c1
      rw [g_mrL_w1, g_mrL_v1, x_up_sn (by omega), x_up_ss, x_up_sn (by omega), x_up_ss]
      exact ⟨rfl, rfl⟩
    · by_cases c2 : x = m + k
      · subst c2
        rw [g_mrL_w2 hd hk, g_mrL_v2 hd hk, x_up_ss, x_up_ss]
        exact ⟨rfl, rfl⟩
      · rw [g_mrL_st 1 c1 c2, g_mrL_st 2 c1 c2, x_up_sn (by omega), x_up_sn (by omega), x_up_sn (by omega), x_up_sn (by omega), x_up_sn (by omega), x_up_sn (by omega)]
        exact ⟨g1, g2⟩
theorem sM_joinRun (hN : g_WN N) (hW : g_WC N C) (hF : m_F N ρ) (hC : m_C N C 0 ρ) (hT : m_T N C ρ) {t o : Nat} (ht : t < N 0 1) (ho : o < N 0 1) (hne : t ≠ o) (z : g_rp1 N t o < N 8 t) (e1 : ρ 0 19 = nI (g_rp1 N t o)) (e2 : ρ 0 20 = nI (g_rp2 N t o)) (e3 : ρ 0 21 = nI (g_rlen N t o)) {Q : x_S → x_L → Prop}
    (h : ∀ ρ' : x_S, (∀ y, y ≠ 1 → ρ' y = ρ y) → (∀ i, 252 ≤ i → ρ' 1 i = ρ 1 i) → m_C N (g_mrg N C t o) 0 ρ' → Q ρ' θ) : wX11_joinRun (nI t) (nI o) ρ θ Q := by
  obtain ⟨r1, r2, r3, r4⟩ := g_run_in hN ht ho z
  have dj := g_run_dj hN ht ho z hne
  have rb := g_rlen_b N t o
  have hb := hN.1.2
  have h10 := (hN.2.2.1 t ht).2.2.2.2.2
  have h10o := (hN.2.2.1 o ho).2.2.2.2.2
  have q1b := g_rdy_b hN hW ht (g_rp1 N t o) (by omega)
  have q2b := g_rdy_b hN hW ho (g_rp2 N t o) (by omega)
  have hp : g_rdy N C o (g_rp2 N t o) < 1000000 := by omega
  have hq : g_rdy N C t (g_rp1 N t o) < 1000000 := by omega
  have tm : ∀ x, x < N 0 1 → ∀ p, p < N 8 x → ρ 5 (10 * x + p) = nI (g_lv N C (10 * x + p)) := fun x hx p hp => (hT _ (g_is_of hN hx hp).1).2
  unfold wX11_joinRun
  rw [e2]
  refine sM_ready hN hC ho r3 (tm o ho) ?_
  rw [e1]
  refine sM_ready hN hC ht z (tm t ht) ?_
  refine x_S4 (fun k ρ' θ' => θ = θ' ∧ (∀ y, y ≠ 1 → ρ' y = ρ y) ∧ (∀ i, 252 ≤ i → ρ' 1 i = ρ 1 i) ∧ m_C N (g_mrL C (g_ms1 N t o) (g_ms2 N t o) (g_q2 N C t o - g_q1 N C t o) (g_q1 N C t o - g_q2 N C t o) k) 0 ρ') (fun _ => nI t) (fun _ => nI o) (fun _ => nI (g_rdy N C o (g_rp2 N t o)) - nI (g_rdy N C t (g_rp1 N t o))) (fun k => nI k) (lo := 0) (n := g_rlen N t o) (Nat.zero_le _) ?_ ?_ ⟨rfl, fun _ _ => rfl, fun _ _ => rfl, ⟨fun x hx => hC.1 x hx, fun x hx => by rw [g_mrL_none, g_mrL_none]; exact hC.2 x hx⟩⟩ rfl rfl rfl rfl
  · rintro K k ρ1 θ' - hk ⟨rfl, f, f2, g⟩ hK
    have i1 := g_is_of hN ht (q := g_rp1 N t o + k) (by omega)
    have i2 := g_is_of hN ho (q := g_rp2 N t o + k) (by omega)
    have a1 : 10 * t + (g_rp1 N t o + k) = g_ms1 N t o + k := (Nat.add_assoc _ _ _).symm
    have a2 : 10 * o + (g_rp2 N t o + k) = g_ms2 N t o + k := (Nat.add_assoc _ _ _).symm
    have b1 := i1.2.2.2.1
    have b2 := i2.2.2.2.1
    have s1 := i1.1
    have s2 := i2.1
    rw [a1] at s1 b1
    rw [a2] at s2 b2
    have v1 := (g.2 _ s1).2
    have v2 := (g.2 _ s2).2
    rw [g_mrL_o1 dj hk, Nat.zero_add] at v1
    rw [g_mrL_o2 dj hk, Nat.zero_add] at v2
    have sp1 := (g_sp_b hN hW s1).2
    have sp2 := (g_sp_b hN hW s2).2
    have mb1 : g_ms1 N t o + g_rlen N t o ≤ 120 := by unfold g_ms1; omega
    have mb2 : g_ms2 N t o + g_rlen N t o ≤ 120 := by unfold g_ms2; omega
    have fin : ∀ W1 W2 : Int32, W1 = nI (if k = 0 then g_q2 N C t o - g_q1 N C t o else 0) → W2 = nI (if k = 0 then g_q1 N C t o - g_q2 N C t o else 0) → K (nI t) (nI o) (nI (g_rdy N C o (g_rp2 N t o)) - nI (g_rdy N C t (g_rp1 N t o))) (nI (k + 1)) (x_up (x_up (x_up (x_up ρ1 1 (132 + (g_ms1 N t o + k)) (nI (min (C 2 (g_ms1 N t o + k)) (C 2 (g_ms2 N t o + k))))) 1 (132 + (g_ms2 N t o + k)) (nI (min (C 2 (g_ms1 N t o + k)) (C 2 (g_ms2 N t o + k))))) 1 (12 + (g_ms1 N t o + k)) W1) 1 (12 + (g_ms2 N t o + k)) W2) θ := fun W1 W2 w1 w2 => by
      rw [w1, w2]
      exact hK _ _ ⟨rfl, fun y hy => by rw [x_up_n hy, x_up_n hy, x_up_n hy, x_up_n hy]; exact f y hy, fun i hi => by rw [x_up_sn (by omega), x_up_sn (by omega), x_up_sn (by omega), x_up_sn (by omega)]; exact f2 i hi, m_mr_step hN mb1 mb2 dj hk g⟩
    unfold wX11_joinRun_23 wX11_joinRun_134 wX11_joinRun_159
    rw [f 0 (by omega), e1, e3]
    refine i_le (by omega) (by omega) (fun g => absurd g (by omega)) (fun _ => ?_)
    rw [nI_add]
    refine sM_spot ?_
    rw [f 0 (by omega), e2, nI_add]
    refine sM_spot ?_
    rw [a1, a2, show (132 + nI (g_ms1 N t o + k) : Int32) = nI (132 + (g_ms1 N t o + k)) from nI_add 132 _, show (132 + nI (g_ms2 N t o + k) : Int32) = nI (132 + (g_ms2 N t o + k)) from nI_add 132 _, show (12 + nI (g_ms1 N t o + k) : Int32) = nI (12 + (g_ms1 N t o + k)) from nI_add 12 _, show (12 + nI (g_ms2 N t o + k) : Int32) = nI (12 + (g_ms2 N t o + k)) from nI_add 12 _, i_cl (by omega), i_cl (by omega), i_cl (by omega), i_cl (by omega), v1, v2, show (nI k + 1 : Int32) = nI (k + 1) from nI_add k 1]
    refine ⟨i_in (by omega) (by omega), i_in (by omega) (by omega), sM_min (by omega) (by omega) (i_ne (b := 0) (by omega) (by omega) (fun k0 => ?_) (fun k0 => ?_))⟩
    · refine ⟨i_in (by omega) (by omega), i_ne (b := 0) (by omega) (by omega) (fun _ => ⟨i_in (by omega) (by omega), fin _ _ (by rw [if_neg k0]; rfl) (by rw [if_neg k0]; rfl)⟩) (fun y => absurd y k0)⟩
    · refine sM_maxd hp hq ⟨i_in (by omega) (by omega), i_ne (b := 0) (by omega) (by omega) (fun y => absurd k0 y) (fun _ => ?_)⟩
      rw [e_dneg]
      exact sM_maxd hq hp ⟨i_in (by omega) (by omega), fin _ _ (by rw [if_pos k0]; rfl) (by rw [if_pos k0]; rfl)⟩
  · rintro K ρ1 θ' ⟨rfl, f, f2, g⟩
    unfold wX11_joinRun_23
    rw [f 0 (by omega), e3]
    exact i_le (by omega) (by omega) (fun _ => h ρ1 f f2 g) (fun g => absurd g (by omega))
/-- what asking for the reason may change -/
def m_la (ρ ρ' : x_S) : Prop := (∀ z, z ≠ 0 → z ≠ 1 → z ≠ 4 → z ≠ 5 → ρ' z = ρ z) ∧ (∀ i, i ≠ 19 → i ≠ 20 → i ≠ 21 → ρ' 0 i = ρ 0 i) ∧ ∀ i, i < 4536 → ρ' 1 i = ρ 1 i
theorem m_la.tr {ρ ρ1 ρ2 : x_S} (h1 : m_la ρ ρ1) (h2 : m_la ρ1 ρ2) : m_la ρ ρ2 := ⟨fun z a b c d => (h2.1 z a b c d).trans (h1.1 z a b c d), fun i a b c => (h2.2.1 i a b c).trans (h1.2.1 i a b c), fun i hi => (h2.2.2 i hi).trans (h1.2.2 i hi)⟩
theorem m_la.rf (ρ : x_S) : m_la ρ ρ := ⟨fun _ _ _ _ _ => rfl, fun _ _ _ _ => rfl, fun _ _ => rfl⟩
theorem m_la.Ch {ρ' : x_S} (hN : g_WN N) (h : m_la ρ ρ') (hC : m_C N C 0 ρ) : m_C N C 0 ρ' := by
  have h0 : m_C N C (252 * 0) ρ := hC
  exact h0.st2 hN (fun i _ b => h.2.2 i (by omega))
theorem m_la.f1 {ρ' : x_S} (h : m_f1 ρ ρ') : m_la ρ ρ' := ⟨fun z a _ _ _ => h.1 z a, h.2, fun i _ => by rw [h.1 1 (by omega)]⟩
theorem sM_lateness (hN : g_WN N) (hW : g_WC N C) (hF : m_F N ρ) (hC : m_C N C 0 ρ) (hT : m_T N C ρ) {t o : Nat} (ht : t < N 0 1) (ho : o < N 0 1) (hne : t ≠ o) (z : g_rp1 N t o < N 8 t) (hWm : g_WC N (g_mrg N C t o)) (e1 : ρ 0 19 = nI (g_rp1 N t o)) (e2 : ρ 0 20 = nI (g_rp2 N t o)) (e3 : ρ 0 21 = nI (g_rlen N t o)) {Q : Int32 → x_S → x_L → Prop}
    (h : ∀ ρ' : x_S, (∀ y, y ≠ 1 → y ≠ 4 → y ≠ 5 → ρ' y = ρ y) → (∀ i, i < 4536 → ρ' 1 i = ρ 1 i) → m_T N C ρ' → Q (nI (if ¬ g_late N C t = true ∧ g_late N (g_mrg N C t o) t = true then 4 else if ¬ g_late N C o = true ∧ g_late N (g_mrg N C t o) o = true then 5 else 0)) ρ' θ) : wX11_lateness (nI t) (nI o) ρ θ Q := by
  have h10 := (hN.2.2.1 t ht).2.2.2.2
  have h10o := (hN.2.2.1 o ho).2.2.2.2
  unfold wX11_lateness wX11_lateness_52 wX11_lateness_69
  -- from the two answers on
  have main : ∀ r2 r8 : Int32, (r2 = if g_late N C t = true then 1 else 0) → (r8 = if g_late N C o = true then 1 else 0) → wX11_copyPlan 0 18 ρ θ (fun σ17 τ17 => wX11_joinRun (nI t) (nI o) σ17 τ17 (fun σ23 τ23 => wX11_layTimes (nI t) σ23 τ23 (fun σ28 τ28 => wX11_layTimes (nI o) σ28 τ28 (fun σ33 τ33 => (¬ r2 = 0 → (¬ r8 = 0 → wX11_lateness_70 Q (nI t) (nI o) 0 σ33 τ33) ∧ (r8 = 0 → wX11_isLate (nI o) σ33 τ33 (fun r59 σ59 τ59 => (r59 = 0 → wX11_lateness_70 Q (nI t) (nI o) 0 σ59 τ59) ∧ (¬ r59 = 0 → wX11_lateness_70 Q (nI t) (nI o) 5 σ59 τ59)))) ∧ (r2 = 0 → wX11_isLate (nI t) σ33 τ33 (fun r42 σ42 τ42 => (r42 = 0 → (¬ r8 = 0 → wX11_lateness_70 Q (nI t) (nI o) 0 σ42 τ42) ∧ (r8 = 0 → wX11_isLate (nI o) σ42 τ42 (fun r59 σ59 τ59 => (r59 = 0 → wX11_lateness_70 Q (nI t) (nI o) 0 σ59 τ59) ∧ (¬ r59 = 0 → wX11_lateness_70 Q (nI t) (nI o) 5 σ59 τ59)))) ∧ (¬ r42 = 0 → wX11_lateness_70 Q (nI t) (nI o) 4 σ42 τ42))))))) := fun r2 r8 hr2 hr8 => by
    refine sM_copyPlan (a := 0) (b := 18) (by omega) (by omega) (fun ρ1 c1 c2 => ?_)
    have hF1 := hF.cong (c1 3 (by omega))
    have hT1 := hT.cong (c1 4 (by omega)) (c1 5 (by omega))
    have hC1 : m_C N C 0 ρ1 := by
      have h0 : m_C N C (252 * 0) ρ := hC
      exact h0.st hN (cp_off c2) (by omega)
    refine sM_joinRun hN hW hF1 hC1 hT1 ht ho hne z (by rw [c1 0 (by omega)]; exact e1) (by rw [c1 0 (by omega)]; exact e2) (by rw [c1 0 (by omega)]; exact e3) (fun ρ2 f2 g2 hC2 => ?_)
    have hF2 := hF1.cong (f2 3 (by omega))
    refine sM_layTimes hN hWm hF2 hC2 ht (fun ρ3 f3 t3 k3 => ?_)
    have hF3 := hF2.cong (f3 3 (by omega) (by omega))
    have hC3 := hC2.cong (f3 1 (by omega) (by omega))
    refine sM_layTimes hN hWm hF3 hC3 ho (fun ρ4 f4 t4 k4 => ?_)
    have hF4 := hF3.cong (f4 3 (by omega) (by omega))
    have la : ρ4 5 (10 * t + (N 8 t - 1)) = nI (g_arr N (g_mrg N C t o) t) := by
      rw [(k4 _ (show (10 * t + (N 8 t - 1)) / 10 ≠ o by omega)).2]
      exact (t3 (N 8 t - 1) (by omega)).2
    have lb : ρ4 5 (10 * o + (N 8 o - 1)) = nI (g_arr N (g_mrg N C t o) o) := (t4 (N 8 o - 1) (by omega)).2
    have back : ∀ v : Int32, (∀ ρ' : x_S, (∀ y, y ≠ 1 → y ≠ 4 → y ≠ 5 → ρ' y = ρ y) → (∀ i, i < 4536 → ρ' 1 i = ρ 1 i) → m_T N C ρ' → Q v ρ' θ) → wX11_lateness_70 Q (nI t) (nI o) v ρ4 θ := fun v hv => by
      unfold wX11_lateness_70
      refine sM_copyPlan (a := 18) (b := 0) (by omega) (by omega) (fun ρ5 c5 d5 => ?_)
      have p5 : ∀ i, i < 4536 → ρ5 1 i = ρ 1 i := fun i hi => by
        rw [d5]
        by_cases y : i < 252
        · rw [if_pos (by omega), f4 1 (by omega) (by omega), f3 1 (by omega) (by omega), g2 _ (by omega), c2, if_pos (by omega), show 252 * 0 + (252 * 18 + (i - 252 * 0) - 252 * 18) = i by omega]
        · rw [if_neg (by omega), f4 1 (by omega) (by omega), f3 1 (by omega) (by omega), g2 _ (by omega), c2, if_neg (by omega)]
      have q5 : ∀ y, y ≠ 1 → y ≠ 4 → y ≠ 5 → ρ5 y = ρ y := fun y y1 y4 y5 => by rw [c5 y y1, f4 y y4 y5, f3 y y4 y5, f2 y y1, c1 y y1]
      have hF5 := hF.cong (q5 3 (by omega) (by omega) (by omega))
      have hC5 : m_C N C 0 ρ5 := by
        have h0 : m_C N C (252 * 0) ρ := hC
        exact h0.st2 hN (fun i _ b => p5 i (by omega))
      refine sM_layTimes hN hW hF5 hC5 ht (fun ρ6 f6 t6 k6 => ?_)
      refine sM_layTimes hN hW (hF5.cong (f6 3 (by omega) (by omega))) (hC5.cong (f6 1 (by omega) (by omega))) ho (fun ρ7 f7 t7 k7 => ?_)
      refine hv ρ7 (fun y y1 y4 y5 => by rw [f7 y y4 y5, f6 y y4 y5]; exact q5 y y1 y4 y5) (fun i hi => by rw [f7 1 (by omega) (by omega), f6 1 (by omega) (by omega)]; exact p5 i hi) (fun s hs => ?_)
      have hs2 := hs.2
      by_cases y1 : s / 10 = o
      · rw [y1] at hs2
        have := t7 (s % 10) hs2
        rw [show 10 * o + s % 10 = s by omega] at this
        exact this
      · rw [(k7 s y1).1, (k7 s y1).2]
        by_cases y2 : s / 10 = t
        · rw [y2] at hs2
          have := t6 (s % 10) hs2
          rw [show 10 * t + s % 10 = s by omega] at this
          exact this
        · rw [(k6 s y2).1, (k6 s y2).2, c5 4 (by omega), c5 5 (by omega), (k4 s y1).1, (k4 s y1).2, (k3 s y2).1, (k3 s y2).2, f2 4 (by omega), f2 5 (by omega), c1 4 (by omega), c1 5 (by omega)]
          exact hT s hs
    have second : (¬ (¬ g_late N C t = true ∧ g_late N (g_mrg N C t o) t = true)) → (¬ r8 = 0 → wX11_lateness_70 Q (nI t) (nI o) 0 ρ4 θ) ∧ (r8 = 0 → wX11_isLate (nI o) ρ4 θ (fun r59 σ59 τ59 => (r59 = 0 → wX11_lateness_70 Q (nI t) (nI o) 0 σ59 τ59) ∧ (¬ r59 = 0 → wX11_lateness_70 Q (nI t) (nI o) 5 σ59 τ59))) := fun y => by
      rw [hr8]
      by_cases l2 : g_late N C o = true
      · rw [if_pos l2]
        refine i_one (back 0 (fun ρ' a b c => ?_))
        have := h ρ' a b c
        rw [if_neg y, if_neg (fun x => x.1 l2)] at this
        exact this
      · rw [if_neg l2]
        refine i_zer' (sM_isLate hN hWm hF4 ho lb (fun l1 => i_one' (back 5 (fun ρ' a b c => ?_))) (fun l1 => i_zer (back 0 (fun ρ' a b c => ?_))))
        · have := h ρ' a b c
          rw [if_neg y, if_pos ⟨l2, l1⟩] at this
          exact this
        · have := h ρ' a b c
          rw [if_neg y, if_neg (fun x => l1 x.2)] at this
          exact this
    by_cases l2 : g_late N C t = true
    · rw [hr2, if_pos l2]
      exact i_one (second (fun x => x.1 l2))
    · rw [hr2, if_neg l2]
      refine i_zer' (sM_isLate hN hWm hF4 ht la (fun l1 => i_one' (back 4 (fun ρ' a b c => ?_))) (fun l1 => i_zer (second (fun x => l1 x.2))))
      have := h ρ' a b c
      rw [if_pos ⟨l2, l1⟩] at this
      exact this
  refine sM_isLate hN hW hF ht (m_arr_at hN hT ht) (fun l1 => sM_isLate hN hW hF ho (m_arr_at hN hT ho) (fun l2 => main 1 1 (by rw [if_pos l1]) (by rw [if_pos l2])) (fun l2 => main 1 0 (by rw [if_pos l1]) (by rw [if_neg l2]))) (fun l1 => sM_isLate hN hW hF ho (m_arr_at hN hT ho) (fun l2 => main 0 1 (by rw [if_neg l1]) (by rw [if_pos l2])) (fun l2 => main 0 0 (by rw [if_neg l1]) (by rw [if_neg l2])))
/-- the run's notes -/
def m_rn (N : g_F) (t o : Nat) (ρ : x_S) : Prop := ρ 0 19 = nI (g_rp1 N t o) ∧ ρ 0 20 = nI (g_rp2 N t o) ∧ ρ 0 21 = nI (g_rlen N t o)
theorem sM_reasonNow (hN : g_WN N) (hW : g_WC N C) (hF : m_F N ρ) (hC : m_C N C 0 ρ) (hT : m_T N C ρ) {t o : Nat} (ht : t < N 0 1) (ho : o < N 0 1) {Q : Int32 → x_S → x_L → Prop}
    (h : ∀ ρ' : x_S, m_la ρ ρ' → m_T N C ρ' → (g_rsn N C t o = 0 → t ≠ o ∧ g_rp1 N t o < N 8 t ∧ m_rn N t o ρ' ∧ g_WC N (g_mrg N C t o)) → Q (nI (g_rsn N C t o)) ρ' θ) : wX11_reasonNow (nI t) (nI o) ρ θ Q := by
  have hb := hN.1.2
  have h10 := (hN.2.2.1 t ht).2.2.2.2
  have h10o := (hN.2.2.1 o ho).2.2.2.2
  unfold wX11_reasonNow wX11_reasonNow_64
  refine i_ne (by omega) (by omega) (fun hne => ?_) (fun he => ?_)
  · refine sM_layRun hN hF ht ho (fun z ρ1 f1 e1 e2 e3 => ?_) (fun z ρ1 f1 e1 e2 e3 => ?_)
    · obtain ⟨r1, r2, r3, r4⟩ := g_run_in hN ht ho z
      have rb := g_rlen_b N t o
      have q1b := g_rdy_b hN hW ht (g_rp1 N t o) (by omega)
      have q2b := g_rdy_b hN hW ho (g_rp2 N t o) (by omega)
      have hp : g_rdy N C o (g_rp2 N t o) < 1000000 := by omega
      have hq : g_rdy N C t (g_rp1 N t o) < 1000000 := by omega
      have hF1 := hF.cong (f1.1 3 (by omega))
      have hC1 := hC.cong (f1.1 1 (by omega))
      have hT1 := hT.cong (f1.1 4 (by omega)) (f1.1 5 (by omega))
      have tm : ∀ x, x < N 0 1 → ∀ p, p < N 8 x → ρ1 5 (10 * x + p) = nI (g_lv N C (10 * x + p)) := fun x hx p hp => (hT1 _ (g_is_of hN hx hp).1).2
      rw [e3, e1]
      refine i_ne (b := 0) (by omega) (by omega) (fun _ => sM_ready hN hC1 ht z (tm t ht) ?_) (fun g => absurd g (by omega))
      rw [e2]
      refine sM_ready hN hC1 ho r3 (tm o ho) (sM_rng hq hp (fun g2 => i_one' ?_) (fun g2 => i_zer ?_))
      · have g3 : g_q2 N C t o - g_q1 N C t o ≤ 120 ∧ g_q1 N C t o - g_q2 N C t o ≤ 120 := g2
        have hWm : g_WC N (g_mrg N C t o) := g_WC.mrg hN hW ht ho z hne g3
        refine sM_lateness hN hW hF1 hC1 hT1 ht ho hne z hWm e1 e2 e3 (fun ρ' a b c => ?_)
        have hr := h ρ' (m_la.tr (m_la.f1 f1) ⟨fun y y0 y1 y4 y5 => a y y1 y4 y5, fun i _ _ _ => by rw [a 0 (by omega) (by omega) (by omega)], b⟩) c (fun _ => ⟨hne, z, ⟨by rw [a 0 (by omega) (by omega) (by omega)]; exact e1, by rw [a 0 (by omega) (by omega) (by omega)]; exact e2, by rw [a 0 (by omega) (by omega) (by omega)]; exact e3⟩, hWm⟩)
        unfold g_rsn at hr
        rw [if_neg hne, if_neg (fun y => y z), if_neg (fun y => y g3)] at hr
        exact hr
      · have g3 : ¬ (g_q2 N C t o - g_q1 N C t o ≤ 120 ∧ g_q1 N C t o - g_q2 N C t o ≤ 120) := g2
        have hr := h ρ1 (m_la.f1 f1) hT1
        unfold g_rsn at hr
        rw [if_neg hne, if_neg (fun y => y z), if_pos g3] at hr
        exact hr (fun y => absurd y (by decide))
    · have hr := h ρ1 (m_la.f1 f1) (hT.cong (f1.1 4 (by omega)) (f1.1 5 (by omega)))
      unfold g_rsn at hr
      rw [if_neg hne, if_pos z] at hr
      rw [e3]
      exact i_zer' (hr (fun y => absurd y (by decide)))
  · have hr := h ρ (m_la.rf ρ) hT
    unfold g_rsn at hr
    rw [if_pos he] at hr
    exact hr (fun y => absurd y (by decide))
end MJ
