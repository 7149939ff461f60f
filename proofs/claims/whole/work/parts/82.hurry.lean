/-! hurrying: kept by both -/
def g_hu (N C : g_F) (t : Nat) : Nat → g_F × Nat
  | 0 => (C, 0)
  | i + 1 => if g_late N (g_hu N C t i).1 t = true then (g_upC (g_hu N C t i).1 2 (10 * t + i) (N 4 (N 9 (10 * t + i))), (g_hu N C t i).2 + (if (g_hu N C t i).1 2 (10 * t + i) = N 4 (N 9 (10 * t + i)) then 0 else 1)) else g_hu N C t i
theorem g_hu_stop {N C : g_F} {t i : Nat} (h : ¬ g_late N (g_hu N C t i).1 t = true) : ∀ c, g_hu N C t (i + c) = g_hu N C t i
  | 0 => rfl
  | c + 1 => by
    have ih := g_hu_stop h c
    rw [← Nat.add_assoc, g_hu, ih, if_neg h]
theorem g_hu_b (N C : g_F) (t : Nat) : ∀ i, (g_hu N C t i).2 ≤ i
  | 0 => Nat.le_refl _
  | i + 1 => by
    have := g_hu_b N C t i
    rw [g_hu]
    split
    · show (g_hu N C t i).2 + (if _ then 0 else 1) ≤ i + 1
      split <;> omega
    · omega
theorem g_upC_id {C : g_F} {k i : Nat} : g_upC C k i (C k i) = C := by
  funext a b
  unfold g_upC
  split
  · rename_i h
    rw [h.1, h.2]
  · rfl
section HU
variable {N C : g_F} {w : Nat → Nat} {P : Nat → g_F} {n l f : Nat} {σ ρ : x_S} {τ θ : x_L}
theorem g_hu_W (hN : g_WN N) (hW : g_WC N C) {t : Nat} (ht : t < N 0 1) : ∀ i, i ≤ N 8 t → g_WC N (g_hu N C t i).1
  | 0, _ => hW
  | i + 1, h => by
    have ih := g_hu_W hN hW ht i (by omega)
    rw [g_hu]
    split
    · have hrd := hN.2.2.2 t i ht (by omega)
      exact ih.v (hN.2.1 _ hrd).2.2.2.2.1 (Nat.le_refl _)
    · exact ih
theorem sX_arrE2 {C' : g_F} (hX : g_X N C w σ τ) (hH : g_Hi N P n l f σ ρ) (hW' : g_WC N C') {σ1 σ2 : x_S} (hk : x_K N C l n σ σ1) (e : ∀ z, ¬ (34 ≤ z ∧ z ≤ 38) → σ2 z = σ1 z) (hC : f_C N C' 33 σ2) {Q : x_S → x_L → Prop} (h : ∀ (σ' : x_S) (w' : Nat → Nat), x_E N C C' l n w' σ τ σ' → Q σ' τ) : wX6_arrange 33 σ2 τ Q := by
  have hm1 : (l + 1) % 15 < 15 := Nat.mod_lt _ (by omega)
  refine sX_rearr hX hW' hC (fun z hz => ?_) (fun σ' w' a hX' => h σ' w' ⟨σ1, hk, hX', fun z hz => ?_, fun z hz => ?_, fun z z1 z2 => ?_⟩)
  · rw [e z (by omega), hk.1 z (by omega) (by omega)]
  · rw [a z (by omega) (by omega), e z (by omega), hk.1 z (by omega) (by omega)]
  · rw [a z (by omega) (by omega), e z (by omega)]
  · rw [a z (by omega) (by omega), e z (by omega), hk.1 z (by omega) (by omega)]
theorem sX_speedUp (hX : g_X N C w σ τ) (hH : g_Hi N P n l f σ ρ) {t : Nat} (ht : t < N 0 1) {Q : Int32 → x_S → x_L → Prop} (h : ∀ (σ' : x_S) (w' : Nat → Nat), x_E N C (g_hu N C t (N 8 t)).1 l n w' σ τ σ' → Q (nI (g_hu N C t (N 8 t)).2) σ' τ) : wX10_speedUp (nI t) σ τ Q := by
  obtain ⟨hN, hW, hF, hR0, hC, hA, hB⟩ := id hX
  have hb := hN.1.2
  have hb0 := hN.1.1
  have h10 := (hN.2.2.1 t ht).2.2.2.2
  obtain ⟨⟨b1, b2, b3⟩, -⟩ := id hH
  have hm1 : (l + 1) % 15 < 15 := Nat.mod_lt _ (by omega)
  unfold wX10_speedUp
  refine sX_keepE hX hH (fun σ2 hk hC2 => ?_)
  have k2 : ∀ z, z ≠ 63 → z ≠ 65 + (l + 1) % 15 → σ2 z = σ z := hk.1
  have hF2 := hF.ed (σ' := σ2) (fun z a c => k2 z (by omega) (by omega))
  have hR2 := hR0.cong (σ' := σ2) (fun z hz => k2 z (by omega) (by omega))
  have done : ∀ (i : Nat) (σ3 : x_S), i ≤ N 8 t → g_hu N C t (N 8 t) = g_hu N C t i → (∀ z, ¬ (36 ≤ z ∧ z ≤ 38) → σ3 z = σ2 z) → f_C N (g_hu N C t i).1 33 σ3 → wX10_speedUp_103 Q (nI (g_hu N C t i).2) σ3 τ := fun i σ3 hi e f3 hC3 => by
    unfold wX10_speedUp_103
    refine sX_arrE2 hX hH (g_hu_W hN hW ht i hi) hk (fun z hz => f3 z (by omega)) hC3 (fun σ' w' hE => ?_)
    rw [e] at h
    exact h σ' w' hE
  refine x_S3 (fun i σ' τ' => τ = τ' ∧ (∀ z, ¬ (36 ≤ z ∧ z ≤ 38) → σ' z = σ2 z) ∧ f_C N (g_hu N C t i).1 33 σ' ∧ σ' (33 + 5) (10 * t + (N 8 t - 1)) = nI (g_arr N (g_hu N C t i).1 t)) (fun _ => nI t) (fun i => nI (g_hu N C t i).2) (fun i => nI (10 * t + i)) (lo := 0) (n := N 8 t) (Nat.zero_le _) ?_ ?_ ⟨rfl, fun _ _ => rfl, hC2, by rw [k2 (33 + 5) (by omega) (by omega)]; exact g_arr_at hX ht⟩ rfl rfl (e_10 t)
  · rintro K i σ3 τ' - hi ⟨rfl, f3, hC3, ha⟩ hK
    have hF3 := hF2.ed (σ' := σ3) (fun z a c => f3 z (by omega))
    have hR3 := hR2.cong (σ' := σ3) (fun z hz => f3 z (by omega))
    obtain ⟨hs, e1, e2, c1, -⟩ := g_is_of hN ht hi
    have hrd := hN.2.2.2 t i ht hi
    have hlim := (hN.2.1 _ hrd).2.2.2
    have hWi := g_hu_W hN hW ht i (by omega)
    have hsp := g_sp_b hN hWi hs
    unfold wX10_speedUp_18 wX10_speedUp_97
    refine ⟨i_in (by omega) (by omega), ?_⟩
    rw [i_cl (by omega), hR3.1 t ht, show (nI (10 * t + i) + 1 : Int32) = nI (10 * t + (i + 1)) from nI_add _ 1]
    refine i_le (by omega) (by omega) (fun g => absurd g (by omega)) (fun _ => sX_isLate hN hWi hF3 hR3 ht ha (fun z => i_one' ⟨i_in c1 (by omega), ?_⟩) (fun z => i_zer (done i σ3 (by omega) ?_ f3 hC3)))
    · rw [i_cl (by omega), hF3.2.2.2 _ hs, i_cl (by omega), (hF3.2.1 _ hrd).2.2.2, show σ3 36 (10 * t + i) = _ from (hC3.2 _ hs).2]
      refine ⟨i_in (by omega) (by omega), i_eq (by omega) (by omega) (fun g => ?_) (fun g => ?_)⟩
      · have eh : g_hu N C t (i + 1) = ((g_hu N C t i).1, (g_hu N C t i).2) := by
          rw [g_hu, if_pos z, if_pos g, ← g, g_upC_id]
          rfl
        have := hK σ3 τ
        rw [eh] at this
        exact this ⟨rfl, f3, hC3, ha⟩
      · have eh : g_hu N C t (i + 1) = (g_upC (g_hu N C t i).1 2 (10 * t + i) (N 4 (N 9 (10 * t + i))), (g_hu N C t i).2 + 1) := by
          rw [g_hu, if_pos z, if_neg g]
        have hW1 := g_hu_W hN hW ht (i + 1) (by omega)
        rw [eh] at hW1
        have hC4 : f_C N (g_upC (g_hu N C t i).1 2 (10 * t + i) (N 4 (N 9 (10 * t + i)))) 33 (x_up σ3 36 (10 * t + i) (nI (N 4 (N 9 (10 * t + i))))) := hC3.v hN
        refine sX_setTimes (by omega) hN hW1 (hF3.ed (fun z a c => x_up_n (by omega))) (hR3.cong (fun z hz => x_up_n (by omega))) hC4 ht (fun σ5 f5 t5 k5 => ?_)
        have := hK σ5 τ
        rw [eh] at this
        rw [show (nI (g_hu N C t i).2 + 1 : Int32) = nI ((g_hu N C t i).2 + 1) from nI_add _ 1]
        exact this ⟨rfl, fun z hz => by rw [f5 z (by omega) (by omega), x_up_n (by omega)]; exact f3 z hz, hC4.cong (fun z hz => f5 z (by omega) (by omega)), (t5 (N 8 t - 1) (by omega)).2⟩
    · have := g_hu_stop z (N 8 t - i)
      rw [show i + (N 8 t - i) = N 8 t by omega] at this
      exact this
  · rintro K σ3 τ' ⟨rfl, f3, hC3, ha⟩
    have hR3 := hR2.cong (σ' := σ3) (fun z hz => f3 z (by omega))
    unfold wX10_speedUp_18
    refine ⟨i_in (by omega) (by omega), ?_⟩
    rw [i_cl (by omega), hR3.1 t ht]
    exact i_le (by omega) (by omega) (fun _ => done (N 8 t) σ3 (Nat.le_refl _) rfl f3 hC3) (fun g => absurd g (by omega))
theorem sM_hurryNow (hM : g_M N C ρ) (hH : g_Hi N P n l f σ ρ) {t : Nat} (ht : t < N 0 1) {Q : Int32 → x_S → x_L → Prop} (h : ∀ ρ' : x_S, m_E N (g_hu N C t (N 8 t)).1 n f ρ ρ' → Q (nI (g_hu N C t (N 8 t)).2) ρ' θ) : wX11_hurryNow (nI t) ρ θ Q := by
  obtain ⟨hN, hW, hF, hC⟩ := id hM
  have hb := hN.1.2
  have hb0 := hN.1.1
  have h10 := (hN.2.2.1 t ht).2.2.2.2
  unfold wX11_hurryNow
  refine sM_keepE hM hH (fun ρ1 hk hF1 hC1 => sM_layTimes hN hW hF1 hC1 ht (fun ρ2 f2 t2 k2 => ?_))
  have p2 : m_fp ρ1 ρ2 := ⟨fun i _ _ => by rw [f2 1 (by omega) (by omega)], fun z hz => f2 z (by omega) (by omega), fun i _ => by rw [f2 0 (by omega) (by omega)]⟩
  refine x_S3 (fun i ρ' θ' => θ = θ' ∧ m_fp ρ1 ρ' ∧ m_C N (g_hu N C t i).1 0 ρ' ∧ ρ' 5 (10 * t + (N 8 t - 1)) = nI (g_arr N (g_hu N C t i).1 t)) (fun _ => nI t) (fun i => nI (g_hu N C t i).2) (fun i => nI i) (lo := 0) (n := N 8 t) (Nat.zero_le _) ?_ ?_ ⟨rfl, p2, hC1.cong (f2 1 (by omega) (by omega)), (t2 (N 8 t - 1) (by omega)).2⟩ rfl rfl rfl
  · rintro K i ρ3 θ' - hi ⟨rfl, f3, hC3, ha⟩ hK
    have hF3 := hF1.cong (f3.2.1 3 (by omega))
    obtain ⟨hs, e1, e2, c1, -⟩ := g_is_of hN ht hi
    have hrd := hN.2.2.2 t i ht hi
    have hlim := (hN.2.1 _ hrd).2.2.2
    have hWi := g_hu_W hN hW ht i (by omega)
    have hsp := g_sp_b hN hWi hs
    unfold wX11_hurryNow_13 wX11_hurryNow_84 wX11_hurryNow_51
    refine sM_places hN hF3 ht (i_le (by omega) (by omega) (fun g => absurd g (by omega)) (fun _ => sM_isLate hN hWi hF3 ht ha (fun z => i_one' (sM_speed hN hC3 ht hi (sM_limit hN hF3 ht hi ?_))) (fun z => i_zer ?_)))
    · have set1 : ∀ v, v = (if (g_hu N C t i).1 2 (10 * t + i) = N 4 (N 9 (10 * t + i)) then 0 else 1) → wX11_spot (nI t) (nI i) ρ3 θ (fun r62 σ62 τ62 => wX11_limitAt (nI t) (nI i) σ62 τ62 (fun r69 σ69 τ69 => vp_in (132 + r62) 4788 ∧ (wX11_layTimes (nI t) (x_up σ69 1 ((132 + r62).toNatClampNeg) r69) τ69 (fun σ75 τ75 => K (nI t) (nI (g_hu N C t i).2 + nI v) (nI i + 1) σ75 τ75)))) := fun v hv => by
        have eh : g_hu N C t (i + 1) = (g_upC (g_hu N C t i).1 2 (10 * t + i) (N 4 (N 9 (10 * t + i))), (g_hu N C t i).2 + v) := by
          rw [g_hu, if_pos z, hv]
        have hW1 := g_hu_W hN hW ht (i + 1) (by omega)
        rw [eh] at hW1
        refine sM_spot (sM_limit hN hF3 ht hi ?_)
        rw [show (132 + nI (10 * t + i) : Int32) = nI (132 + (10 * t + i)) from nI_add 132 _, i_cl (by omega), nI_add, show (nI i + 1 : Int32) = nI (i + 1) from nI_add i 1]
        have hC4 := hC3.v hN (s := 10 * t + i) (m := N 4 (N 9 (10 * t + i))) c1
        refine ⟨i_in (by omega) (by omega), sM_layTimes hN hW1 (hF3.cong (x_up_n (by omega))) hC4 ht (fun ρ5 f5 t5 k5 => ?_)⟩
        have := hK ρ5 θ
        rw [eh] at this
        exact this ⟨rfl, f3.tr ((m_fp.up1 (Or.inl (by omega))).tr ⟨fun i _ _ => by rw [f5 1 (by omega) (by omega)], fun z hz => f5 z (by omega) (by omega), fun i _ => by rw [f5 0 (by omega) (by omega)]⟩), hC4.cong (f5 1 (by omega) (by omega)), (t5 (N 8 t - 1) (by omega)).2⟩
      exact i_ne (by omega) (by omega) (fun g => set1 1 (by rw [if_neg g])) (fun g => set1 0 (by rw [if_pos g]))
    · have := g_hu_stop z (N 8 t - i)
      rw [show i + (N 8 t - i) = N 8 t by omega] at this
      rw [this] at h
      exact h ρ3 ⟨ρ1, hk, f3, hC3⟩
  · rintro K ρ3 θ' ⟨rfl, f3, hC3, ha⟩
    have hF3 := hF1.cong (f3.2.1 3 (by omega))
    unfold wX11_hurryNow_13 wX11_hurryNow_84
    exact sM_places hN hF3 ht (i_le (by omega) (by omega) (fun _ => h ρ3 ⟨ρ1, hk, f3, hC3⟩) (fun g => absurd g (by omega)))
end HU
theorem z_28 : z_p28 g_R := by
  intro σ τ ρ θ hR a
  obtain ⟨N, C, w, hX, hM, hV⟩ := id hR
  obtain ⟨hN, hW, hF, hR0, hC, hA, hB⟩ := id hX
  have f0 : m_fr ρ (x_up ρ 0 5 0) := m_fr.up0 (Or.inl rfl)
  have hM0 := hM.fr f0
  have hV0 := hV.fr (x_fq.rf σ) f0
  have hR1 := hR.fr (x_fq.rf _) (rfl : τ 32 = τ 32) f0 (θ' := θ)
  obtain ⟨P, n, l, f, hH⟩ := id hV0.1
  unfold wL_hurry wX10_hurry
  refine sX_chkTruck hN hF (fun c => ?_) (fun c => ⟨rfl, ?_⟩)
  · obtain ⟨t, ht, rfl⟩ := id c
    refine sX_speedUp hX hH ht (fun σ' w' hE => ?_)
    unfold wX11_hurry wX11_hurry_19 wX11_hurry_35
    refine sM_isTruck hN hM0.2.2.1 (fun _ => i_one (sM_thr0 (i_zer ?_))) (fun g => absurd c g)
    refine sM_hurryNow hM0 hH ht (fun ρ' hm => ?_)
    have E := g_R.edit (θ' := θ) hX hM0 hV0 hH hE hm
    exact q_ok E.1 (E.2.1.trans (x_up_ss _ _ _ _))
  · unfold wX11_hurry wX11_hurry_19 wX11_hurry_35
    refine sM_isTruck hN hM0.2.2.1 (fun g => absurd g c) (fun _ => i_zer' (sM_thr1 (i_one' ?_)))
    exact q_no (hR1.fr (x_fq.rf _) rfl (m_fr.up0 (Or.inl rfl))) (x_up_ss _ _ _ _) (by decide)
