/-! setting, taking back, snapshots: kept by both -/
theorem z_20 : z_p20 g_R := by
  intro σ τ ρ θ hR a b c3
  obtain ⟨N, C, w, hX, hM, hV⟩ := id hR
  obtain ⟨hN, hW, hF, hR0, hC, hA, hB⟩ := id hX
  have f0 : m_fr ρ (x_up ρ 0 5 0) := m_fr.up0 (Or.inl rfl)
  have hM0 := hM.fr f0
  have hV0 := hV.fr (x_fq.rf σ) f0
  have hR1 := hR.fr (x_fq.rf _) (rfl : τ 32 = τ 32) f0 (θ' := θ)
  obtain ⟨P, n, l, f, hH⟩ := id hV0.1
  unfold wL_setWait wX10_setWait
  refine sX_chkPlace hN hF (fun c => ?_) (fun c => ?_)
  · refine sX_chkRangeE (l := 0) (m := 120) (by omega) (by omega) rfl rfl (fun d => ?_) (fun d => ?_)
    · obtain ⟨t, q, ht, hq, rfl, rfl⟩ := id c
      obtain ⟨m, m0, m1, rfl⟩ := id d
      have hs := (g_is_of hN ht hq).1
      refine sX_stopAt (sX_chWait hX hH hs (by omega) (fun σ' w' hx => ?_))
      unfold wX11_setWait wX11_setWait_20 wX11_setWait_45 wX11_setWait_63
      refine sM_isPlace hN hM0.2.2.1 (fun _ => i_one (sM_thr0 (i_zer' ?_))) (fun g => absurd c g)
      refine sM_inr (l := 0) (n := 121) (by omega) (by decide) (by decide) (fun _ => i_one (sM_thr0 (i_zer ?_))) (fun g => absurd d g)
      refine sM_waitNow hM0 hH ht hq (fun ρ' hm => ?_)
      have E := g_R.edit (θ' := θ) hX hM0 hV0 hH hx hm
      exact q_ok E.1 (E.2.1.trans (x_up_ss _ _ _ _))
    · right
      refine ⟨rfl, ?_⟩
      unfold wX11_setWait wX11_setWait_20 wX11_setWait_45 wX11_setWait_63 wX11_setWait_52
      refine sM_isPlace hN hM0.2.2.1 (fun _ => i_one (sM_thr0 (i_zer' ?_))) (fun g => absurd c g)
      refine sM_inr (l := 0) (n := 121) (by omega) (by decide) (by decide) (fun g => absurd g d) (fun _ => i_zer' (sM_thr1 (i_one' ?_)))
      exact q_no (hR1.fr (x_fq.rf _) rfl (m_fr.up0 (Or.inl rfl))) (x_up_ss _ _ _ _) (by decide)
  · left
    refine ⟨rfl, ?_⟩
    unfold wX11_setWait wX11_setWait_20 wX11_setWait_52 wX11_setWait_63
    refine sM_isPlace hN hM0.2.2.1 (fun g => absurd g c) (fun _ => i_zer' (sM_thr1 (i_one ?_)))
    exact q_no (hR1.fr (x_fq.rf _) rfl (m_fr.up0 (Or.inl rfl))) (x_up_ss _ _ _ _) (by decide)
theorem e_lim {v : Nat} (h : v < 1000) : ((nI v : Int32).toInt64).toInt = ((v + 1 : Nat) : Int) - 1 := by
  rw [Int32.toInt_toInt64, nI_toInt (by omega)]
  omega
theorem z_21 : z_p21 g_R := by
  intro σ τ ρ θ hR a b c3
  obtain ⟨N, C, w, hX, hM, hV⟩ := id hR
  obtain ⟨hN, hW, hF, hR0, hC, hA, hB⟩ := id hX
  have f0 : m_fr ρ (x_up ρ 0 5 0) := m_fr.up0 (Or.inl rfl)
  have hM0 := hM.fr f0
  have hV0 := hV.fr (x_fq.rf σ) f0
  have hR1 := hR.fr (x_fq.rf _) (rfl : τ 32 = τ 32) f0 (θ' := θ)
  obtain ⟨P, n, l, f, hH⟩ := id hV0.1
  have hb0 := hN.1.1
  unfold wL_setSpeed wX10_setSpeed
  refine sX_chkPlace hN hF (fun c => ?_) (fun c => ?_)
  · obtain ⟨t, q, ht, hq, rfl, rfl⟩ := id c
    obtain ⟨hs, e1, e2, b1, b2, b3⟩ := g_is_of hN ht hq
    have hrd := hN.2.2.2 t q ht hq
    have hlim := (hN.2.1 _ hrd).2.2.2.2
    refine sX_stopAt ⟨i_in b1 (by omega), ?_⟩
    rw [i_cl (by omega), hF.2.2.2 _ hs, i_cl (by omega), (hF.2.1 _ hrd).2.2.2]
    refine ⟨i_in (by omega) (by omega), sX_chkRangeE (l := 40) (m := N 4 (N 9 (10 * t + q))) (by omega) (by omega) rfl rfl (fun d => ?_) (fun d => ?_)⟩
    · obtain ⟨m, m0, m1, rfl⟩ := id d
      refine sX_chSpeed hX hH hs m0 (by omega) (fun σ' w' hx => ?_)
      unfold wX11_setSpeed wX11_setSpeed_20 wX11_setSpeed_51 wX11_setSpeed_69
      refine sM_isPlace hN hM0.2.2.1 (fun _ => i_one (sM_thr0 (i_zer' (sM_limit hN hM0.2.2.1 ht hq ?_)))) (fun g => absurd c g)
      refine sM_inr (l := 40) (n := N 4 (N 9 (10 * t + q)) + 1) (by omega) (by decide) (e_lim (by omega)) (fun _ => i_one (sM_thr0 (i_zer ?_))) (fun g => absurd d g)
      refine sM_speedNow hM0 hH ht hq (fun ρ' hm => ?_)
      have E := g_R.edit (θ' := θ) hX hM0 hV0 hH hx hm
      exact q_ok E.1 (E.2.1.trans (x_up_ss _ _ _ _))
    · right
      refine ⟨rfl, ?_⟩
      unfold wX11_setSpeed wX11_setSpeed_20 wX11_setSpeed_51 wX11_setSpeed_69 wX11_setSpeed_58
      refine sM_isPlace hN hM0.2.2.1 (fun _ => i_one (sM_thr0 (i_zer' (sM_limit hN hM0.2.2.1 ht hq ?_)))) (fun g => absurd c g)
      refine sM_inr (l := 40) (n := N 4 (N 9 (10 * t + q)) + 1) (by omega) (by decide) (e_lim (by omega)) (fun g => absurd g d) (fun _ => i_zer' (sM_thr1 (i_one' ?_)))
      exact q_no (hR1.fr (x_fq.rf _) rfl (m_fr.up0 (Or.inl rfl))) (x_up_ss _ _ _ _) (by decide)
  · left
    refine ⟨rfl, ?_⟩
    unfold wX11_setSpeed wX11_setSpeed_20 wX11_setSpeed_58 wX11_setSpeed_69
    refine sM_isPlace hN hM0.2.2.1 (fun g => absurd g c) (fun _ => i_zer' (sM_thr1 (i_one ?_)))
    exact q_no (hR1.fr (x_fq.rf _) rfl (m_fr.up0 (Or.inl rfl))) (x_up_ss _ _ _ _) (by decide)
theorem z_22 : z_p22 g_R := by
  intro σ τ ρ θ hR a b
  obtain ⟨N, C, w, hX, hM, hV⟩ := id hR
  obtain ⟨hN, hW, hF, hR0, hC, hA, hB⟩ := id hX
  have f0 : m_fr ρ (x_up ρ 0 5 0) := m_fr.up0 (Or.inl rfl)
  have hM0 := hM.fr f0
  have hV0 := hV.fr (x_fq.rf σ) f0
  have hR1 := hR.fr (x_fq.rf _) (rfl : τ 32 = τ 32) f0 (θ' := θ)
  obtain ⟨P, n, l, f, hH⟩ := id hV0.1
  have e20 : (2000 : Int32) = nI 2000 := by decide +kernel
  unfold wL_setStart wX10_setStart
  refine sX_chkTruck hN hF (fun c => ?_) (fun c => ?_)
  · refine sX_chkRangeE (l := 0) (m := 2000) (by decide) (by decide) rfl e20 (fun d => ?_) (fun d => ?_)
    · obtain ⟨t, ht, rfl⟩ := id c
      obtain ⟨m, m0, m1, rfl⟩ := id d
      refine sX_chStart hX hH ht (by omega) (fun σ' w' hx => ?_)
      unfold wX11_setStart wX11_setStart_19 wX11_setStart_44 wX11_setStart_61
      refine sM_isTruck hN hM0.2.2.1 (fun _ => i_one (sM_thr0 (i_zer' ?_))) (fun g => absurd c g)
      refine sM_inr (l := 0) (n := 2000 + 1) (by omega) (by decide) (by decide +kernel) (fun _ => i_one (sM_thr0 (i_zer ?_))) (fun g => absurd d g)
      refine sM_startNow hM0 hH ht (fun ρ' hm => ?_)
      have E := g_R.edit (θ' := θ) hX hM0 hV0 hH hx hm
      exact q_ok E.1 (E.2.1.trans (x_up_ss _ _ _ _))
    · right
      refine ⟨rfl, ?_⟩
      unfold wX11_setStart wX11_setStart_19 wX11_setStart_44 wX11_setStart_61 wX11_setStart_51
      refine sM_isTruck hN hM0.2.2.1 (fun _ => i_one (sM_thr0 (i_zer' ?_))) (fun g => absurd c g)
      refine sM_inr (l := 0) (n := 2000 + 1) (by omega) (by decide) (by decide +kernel) (fun g => absurd g d) (fun _ => i_zer' (sM_thr1 (i_one' ?_)))
      exact q_no (hR1.fr (x_fq.rf _) rfl (m_fr.up0 (Or.inl rfl))) (x_up_ss _ _ _ _) (by decide)
  · left
    refine ⟨rfl, ?_⟩
    unfold wX11_setStart wX11_setStart_19 wX11_setStart_51 wX11_setStart_61
    refine sM_isTruck hN hM0.2.2.1 (fun g => absurd g c) (fun _ => i_zer' (sM_thr1 (i_one ?_)))
    exact q_no (hR1.fr (x_fq.rf _) rfl (m_fr.up0 (Or.inl rfl))) (x_up_ss _ _ _ _) (by decide)
theorem z_42 : z_p42 g_R := by
  intro σ τ ρ θ hR
  obtain ⟨N, C, w, hX, hM, hV⟩ := id hR
  obtain ⟨hN, hW, hF, hR0, hC, hA, hB⟩ := id hX
  have f0 : m_fr ρ (x_up ρ 0 5 0) := m_fr.up0 (Or.inl rfl)
  have hM0 := hM.fr f0
  have hV0 := hV.fr (x_fq.rf σ) f0
  have hR1 := hR.fr (x_fq.rf _) (rfl : τ 32 = τ 32) f0 (θ' := θ)
  obtain ⟨P, n, l, f, hH⟩ := id hV0.1
  obtain ⟨⟨h1, h2, h3⟩, ⟨h4, h5, h6, h7⟩, h8⟩ := id hH
  unfold wX10_undo
  rw [h5]
  refine i_ne (b := 0) (by omega) (by omega) (fun g => ?_) (fun g => ?_)
  · unfold wX2_takeBack
    obtain ⟨p1, p2, p3⟩ := h8 0 (by omega)
    rw [show (l + 15 - 0) % 15 = l by omega] at p2
    rw [show (f + n - 1 - 0) % 15 = (f + (n - 1)) % 15 by congr 1; omega] at p3
    have hm : (f + (n - 1)) % 15 < 15 := Nat.mod_lt _ (by omega)
    have hm2 : (l + 14) % 15 < 15 := Nat.mod_lt _ (by omega)
    rw [h4, i_cl (by omega)]
    refine ⟨i_in (by omega) (by omega), sX_read hN (by omega) p2 (fun σ1 fx hC1 => ?_)⟩
    have e1 : σ1 63 1 = nI l := by rw [fx 63 (by omega) (by omega) (by omega)]; exact h4
    have e2 : σ1 63 2 = nI n := by rw [fx 63 (by omega) (by omega) (by omega)]; exact h5
    rw [x_up_sn (show (2 : Nat) ≠ 1 by omega), e2, e1, show (nI n - 1 : Int32) = nI (n - 1) from nI_sub (b := 1) (by omega), show ((nI l + 15 - 1) - (nI l + 15 - 1) / 15 * 15 : Int32) = nI ((l + 14) % 15) from by
      rw [show (nI l + 15 - 1 : Int32) = nI (l + 14) from by
        rw [show (nI l + 15 : Int32) = nI (l + 15) from nI_add l 15]
        exact nI_sub (a := l + 15) (b := 1) (by omega)]
      exact e_mod (l + 14) 15 (by omega) (by omega) (by omega)]
    refine sX_rearr (C' := P 0) hX p1 (hC1.cong (fun z hz => by rw [x_up_n (by omega), x_up_n (by omega)])) (fun z hz => by rw [x_up_n (by omega), x_up_n (by omega), fx z (by omega) (by omega) (by omega)]) (fun σ' w' a hX' => ?_)
    have k1 : σ' 63 1 = nI ((l + 14) % 15) := by rw [a 63 (by omega) (by omega), x_up_sn (by omega), x_up_ss]
    have k2 : σ' 63 2 = nI (n - 1) := by rw [a 63 (by omega) (by omega), x_up_ss]
    have k3 : ∀ z, z ≠ 63 → (z < 13 ∨ (27 ≤ z ∧ z ≤ 31) ∨ 63 < z) → σ' z = σ z := fun z z1 z2 => by rw [a z (by omega) (by omega), x_up_n z1, x_up_n z1, fx z (by omega) (by omega) (by omega)]
    have key : wX11_undo ρ θ (fun r' ρ1 θ1 => nI (n - 1) = r' ∧ g_R σ' τ ρ1 θ1) := by
      unfold wX11_undo
      rw [h7]
      refine i_ne (b := 0) (by omega) (by omega) (fun _ => ?_) (fun g2 => absurd g2 g)
      have q2 : (x_up (x_up ρ 0 5 0) 0 3 (nI n - 1)) 0 2 = nI f := by rw [x_up_sn (by omega)]; exact h6
      have q3 : (x_up (x_up ρ 0 5 0) 0 3 (nI n - 1)) 0 3 = nI (n - 1) := by rw [x_up_ss]; exact nI_sub (b := 1) (by omega)
      rw [q2, q3, nI_add, show (3 + (nI (f + (n - 1)) - nI (f + (n - 1)) / 15 * 15) : Int32) = nI (3 + (f + (n - 1)) % 15) from by
        rw [show (nI (f + (n - 1)) - nI (f + (n - 1)) / 15 * 15 : Int32) = nI ((f + (n - 1)) % 15) from e_mod (f + (n - 1)) 15 (by omega) (by omega) (by omega)]
        exact nI_add 3 _]
      refine sM_copyPlan (b := 0) (by omega) (by omega) (fun ρ1 c1 c2 => ?_)
      have g1 : ∀ z, z ≠ 0 → z ≠ 1 → ρ1 z = (x_up ρ 0 5 0) z := fun z z0 z1 => by rw [c1 z z1, x_up_n z0]
      have g2 : ∀ i, i ≠ 3 → ρ1 0 i = (x_up ρ 0 5 0) 0 i := fun i hi => by rw [c1 0 (by omega), x_up_sn hi]
      have g3 : ρ1 0 3 = nI (n - 1) := by rw [c1 0 (by omega)]; exact q3
      have g4 : ∀ i, ¬ (252 * 0 ≤ i ∧ i < 252 * 0 + 252) → ρ1 1 i = (x_up ρ 0 5 0) 1 i := fun i hi => by
        rw [cp_off c2 i hi, x_up_n (show (1 : Nat) ≠ 0 by omega)]
      refine ⟨g3.symm, N, P 0, w', hX', ⟨hN, p1, hM0.2.2.1.cong (g1 3 (by omega) (by omega)), ?_⟩, hV0.ed hN (P := fun k => P (k + 1)) (n := n - 1) (l := (l + 14) % 15) (f := f) (b := 0) ⟨⟨by omega, hm2, h3⟩, ⟨k1, k2, by rw [g2 2 (by omega)]; exact h6, g3⟩, fun k hk => ?_⟩ (fun z hz => k3 z (by omega) (by omega)) (Or.inl rfl) (fun i a _ => g4 i a) (fun z hz => g1 z (by omega) (by omega)) (fun i hi => g2 i (by omega))⟩
      · have p4 : m_C N (P 0) (252 * (3 + (f + (n - 1)) % 15)) (x_up (x_up ρ 0 5 0) 0 3 (nI n - 1)) := p3.cong (x_up_n (by omega))
        exact p4.cp hN c2
      · obtain ⟨a1, a2, a3⟩ := h8 (k + 1) (by omega)
        refine ⟨a1, ?_, ?_⟩
        · rw [show ((l + 14) % 15 + 15 - k) % 15 = (l + 15 - (k + 1)) % 15 by omega]
          exact a2.cong (k3 _ (by omega) (by omega))
        · rw [show (f + (n - 1) - 1 - k) % 15 = (f + n - 1 - (k + 1)) % 15 by congr 1; omega]
          exact a3.st hN g4 (by omega)
    rw [k2]
    exact key
  · unfold wX11_undo
    rw [h7]
    exact i_ne (b := 0) (by omega) (by omega) (fun g2 => absurd g g2) (fun _ => ⟨rfl, hR1⟩)
/-- a slot of a snapshot -/
theorem i_slot {a : Int32} {P1 P2 P3 : Prop} (h1 : g_rg a 2 → P3) (h0 : ¬ g_rg a 2 → P1 ∧ P2) : (a < 0 → P1) ∧ (¬ a < 0 → (a < 2 → P3) ∧ (¬ a < 2 → P2)) := by
  by_cases c : g_rg a 2
  · have h3 := h1 c
    obtain ⟨t, ht, rfl⟩ := c
    exact i_neg (by omega) (i_lt (b := 2) (by omega) (by omega) (fun _ => h3) (fun g => absurd ht (by omega)))
  · refine ⟨fun _ => (h0 c).1, fun g => ⟨fun g2 => absurd ?_ c, fun _ => (h0 c).2⟩⟩
    obtain ⟨j, hj, rfl⟩ := nI_of g
    exact ⟨j, (nI_ltI hj (by omega)).mp g2, rfl⟩
theorem z_44 : z_p44 g_R := by
  intro σ τ ρ θ hR a
  obtain ⟨N, C, w, hX, hM, hV⟩ := id hR
  obtain ⟨hN, hW, hF, hR0, hC, hA, hB⟩ := id hX
  have f0 : m_fr ρ (x_up ρ 0 5 0) := m_fr.up0 (Or.inl rfl)
  have hM0 := hM.fr f0
  have hV0 := hV.fr (x_fq.rf σ) f0
  have hR1 := hR.fr (x_fq.rf _) (rfl : τ 32 = τ 32) f0 (θ' := θ)
  have no : ¬ g_rg a 2 → wX11_saveSnapshot a ρ θ (fun r' ρ1 θ1 => 0 = r' ∧ g_R σ τ ρ1 θ1) := fun c => by
    unfold wX11_saveSnapshot
    exact sM_inr (l := 0) (n := 2) (by omega) (by decide) (by decide) (fun g => absurd (by obtain ⟨t, _, t2, e⟩ := g; exact ⟨t, t2, e⟩) c) (fun _ => i_zer' ⟨rfl, hR1⟩)
  unfold wX10_saveSnapshot wX10_saveSnapshot_9
  refine i_slot (fun c => ?_) (fun c => ⟨no c, no c⟩)
  obtain ⟨t, ht, rfl⟩ := id c
  unfold wX2_saveIn
  rw [i_cl (by omega)]
  refine ⟨i_in (by omega) (by omega), sX_write hN (by omega) hC (fun σ1 fx hCh => ?_)⟩
  unfold wX11_saveSnapshot
  refine sM_inr (l := 0) (n := 2) (by omega) (by decide) (by decide) (fun _ => i_one ?_) (fun g => absurd ⟨t, Nat.zero_le _, ht, rfl⟩ g)
  rw [show (1 + nI t : Int32) = nI (1 + t) from nI_add 1 t]
  refine sM_copyPlan (a := 0) (by omega) (by omega) (fun ρ1 c1 c2 => ⟨i_in (by omega) (by omega), rfl, ?_⟩)
  rw [i_cl (by omega), show vp_nar .boolean 1 = 1 from rfl]
  have g1 : ∀ z, z ≠ 1 → z ≠ 2 → (x_up ρ1 2 t 1) z = (x_up ρ 0 5 0) z := fun z z0 z1 => by rw [x_up_n z1, c1 z z0]
  have g4 : ∀ i, ¬ (252 * (1 + t) ≤ i ∧ i < 252 * (1 + t) + 252) → (x_up ρ1 2 t 1) 1 i = (x_up ρ 0 5 0) 1 i := fun i hi => by rw [x_up_n (show (1 : Nat) ≠ 2 by omega)]; exact cp_off c2 i hi
  have k3 : ∀ z, z ≠ 83 → z ≠ 81 + t → (x_up σ1 83 t 1) z = σ z := fun z z1 z2 => by rw [x_up_n z1, fx z z2]
  obtain ⟨⟨P, n, l, f, hH⟩, h2, h3, h4⟩ := id hV0
  obtain ⟨a1, a2, a3⟩ := id hH
  refine ⟨N, C, w, ?_, ⟨hN, hW, hM0.2.2.1.cong (g1 3 (by omega) (by omega)), ?_⟩, ⟨P, n, l, f, a1, ⟨by rw [k3 63 (by omega) (by omega)]; exact a2.1, by rw [k3 63 (by omega) (by omega)]; exact a2.2.1, by rw [g1 0 (by omega) (by omega)]; exact a2.2.2.1, by rw [g1 0 (by omega) (by omega)]; exact a2.2.2.2⟩, fun k hk => ?_⟩, fun i hi => ?_, ?_, ?_⟩
  · refine ⟨hN, hW, hF.ed (fun z x y => k3 z (by omega) (by omega)), hR0.cong (fun z hz => k3 z (by omega) (by omega)), hC.cong (fun z hz => k3 z (by omega) (by omega)), hA.cong (fun z x y => k3 z (by omega) (by omega)) (by rw [k3 33 (by omega) (by omega)]), hB.cong (k3 28 (by omega) (by omega))⟩
  · have h0 : m_C N C (252 * 0) (x_up ρ 0 5 0) := hM0.2.2.2
    exact h0.st hN g4 (by omega)
  · obtain ⟨b1, b2, b3⟩ := a3 k hk
    exact ⟨b1, b2.cong (k3 _ (by omega) (by omega)), b3.st hN g4 (by omega)⟩
  · by_cases z : i = t
    · subst z
      right
      rw [x_up_ss, x_up_ss]
      refine ⟨rfl, rfl, C, hW, hCh.cong (x_up_n (by omega)), ?_⟩
      have h0 : m_C N C (252 * 0) (x_up ρ 0 5 0) := hM0.2.2.2
      exact (h0.cp hN c2).cong (x_up_n (by omega))
    · rw [x_up_sn z, x_up_sn z, fx 83 (by omega), c1 2 (by omega)]
      rcases h2 i hi with g | ⟨g1', g2', S, g3, g4', g5⟩
      · exact Or.inl g
      · exact Or.inr ⟨g1', g2', S, g3, g4'.cong (k3 _ (by omega) (by omega)), g5.st hN g4 (by omega)⟩
  · unfold g_Tx at h3 ⊢
    rw [k3 1 (by omega) (by omega), k3 2 (by omega) (by omega), g1 21 (by omega) (by omega), g1 0 (by omega) (by omega)]
    exact h3
  · unfold g_Ou at h4 ⊢
    rw [k3 84 (by omega) (by omega), k3 85 (by omega) (by omega), g1 20 (by omega) (by omega), g1 0 (by omega) (by omega)]
    exact h4
theorem z_45 : z_p45 g_R := by
  intro σ τ ρ θ hR a
  obtain ⟨N, C, w, hX, hM, hV⟩ := id hR
  obtain ⟨hN, hW, hF, hR0, hC, hA, hB⟩ := id hX
  have f0 : m_fr ρ (x_up ρ 0 5 0) := m_fr.up0 (Or.inl rfl)
  have hM0 := hM.fr f0
  have hV0 := hV.fr (x_fq.rf σ) f0
  have hR1 := hR.fr (x_fq.rf _) (rfl : τ 32 = τ 32) f0 (θ' := θ)
  obtain ⟨⟨P, n, l, f, hH⟩, h2, -⟩ := id hV0
  have no : ¬ g_rg a 2 → wX11_restoreSnapshot a ρ θ (fun r' ρ1 θ1 => 0 = r' ∧ g_R σ τ ρ1 θ1) := fun c => by
    unfold wX11_restoreSnapshot wX11_restoreSnapshot_24
    exact sM_inr (l := 0) (n := 2) (by omega) (by decide) (by decide) (fun g => absurd (by obtain ⟨t, _, t2, e⟩ := g; exact ⟨t, t2, e⟩) c) (fun _ => i_zer ⟨rfl, hR1⟩)
  unfold wX10_restoreSnapshot wX10_restoreSnapshot_21
  refine i_rg (n := 2) (by omega) (fun c => ?_) (fun c => ⟨no c, no c⟩)
  obtain ⟨t, ht, rfl⟩ := id c
  rw [i_cl (by omega)]
  refine ⟨i_in (by omega) (by omega), ?_⟩
  rcases h2 t ht with ⟨s1, s2⟩ | ⟨s1, s2, S, s3, s4, s5⟩
  · rw [s1]
    refine i_zer' ?_
    unfold wX11_restoreSnapshot wX11_restoreSnapshot_24
    refine sM_inr (l := 0) (n := 2) (by omega) (by decide) (by decide) (fun _ => i_one' ⟨i_in (by omega) (by omega), ?_⟩) (fun g => absurd ⟨t, Nat.zero_le _, ht, rfl⟩ g)
    rw [i_cl (by omega), s2]
    exact i_zer' ⟨rfl, hR1⟩
  · rw [s1]
    refine i_one ?_
    unfold wX2_restoreFrom wX2_forgetEdits
    rw [i_cl (by omega)]
    refine ⟨i_in (by omega) (by omega), sX_read hN (by omega) s4 (fun σ1 fx hC1 => ?_)⟩
    refine sX_rearr (C' := S) hX s3 hC1 (fun z hz => fx z (by omega) (by omega) (by omega)) (fun σ' w' ar hX' => ?_)
    have k3 : ∀ z, z < 13 ∨ (27 ≤ z ∧ z ≤ 31) ∨ 63 ≤ z → σ' z = σ z := fun z z2 => by rw [ar z (by omega) (by omega), fx z (by omega) (by omega) (by omega)]
    unfold wX11_restoreSnapshot
    refine sM_inr (l := 0) (n := 2) (by omega) (by decide) (by decide) (fun _ => i_one' ⟨i_in (by omega) (by omega), ?_⟩) (fun g => absurd ⟨t, Nat.zero_le _, ht, rfl⟩ g)
    rw [i_cl (by omega), s2, show (1 + nI t : Int32) = nI (1 + t) from nI_add 1 t]
    refine i_one (sM_copyPlan (b := 0) (by omega) (by omega) (fun ρ1 c1 c2 => ⟨rfl, ?_⟩))
    obtain ⟨a1, a2, a3⟩ := id hH
    have g1 : ∀ z, z ≠ 0 → z ≠ 1 → (x_up ρ1 0 3 0) z = (x_up ρ 0 5 0) z := fun z z0 z1 => by rw [x_up_n z0, c1 z z1]
    have g2 : ∀ i, i ≠ 3 → (x_up ρ1 0 3 0) 0 i = (x_up ρ 0 5 0) 0 i := fun i hi => by rw [x_up_sn hi, c1 0 (by omega)]
    have g4 : ∀ i, ¬ (252 * 0 ≤ i ∧ i < 252 * 0 + 252) → (x_up ρ1 0 3 0) 1 i = (x_up ρ 0 5 0) 1 i := fun i hi => by rw [x_up_n (show (1 : Nat) ≠ 0 by omega)]; exact cp_off c2 i hi
    have fq : x_fq σ' (x_up σ' 63 2 0) → True := fun _ => trivial
    refine ⟨N, S, w', ?_, ⟨hN, s3, hM0.2.2.1.cong (g1 3 (by omega) (by omega)), ?_⟩, hV0.ed hN (P := P) (n := 0) (l := l) (f := f) (b := 0) ⟨⟨by omega, a1.2.1, a1.2.2⟩, ⟨?_, x_up_ss _ _ _ _, by rw [g2 2 (by omega)]; exact a2.2.2.1, x_up_ss _ _ _ _⟩, fun k hk => absurd hk (Nat.not_lt_zero _)⟩ (fun z hz => by rw [x_up_n (by omega)]; exact k3 z (by omega)) (Or.inl rfl) (fun i x _ => g4 i x) (fun z hz => g1 z (by omega) (by omega)) (fun i hi => g2 i (by omega))⟩
    · obtain ⟨y1, y2, y3, y4, y5, y6, y7⟩ := hX'
      exact ⟨y1, y2, y3.ed (fun z x y => x_up_n (by omega)), y4.cong (fun z hz => x_up_n (by omega)), y5.cong (fun z hz => x_up_n (by omega)), y6.cong (fun z x y => x_up_n (by omega)) (by rw [x_up_n (show (33 : Nat) ≠ 63 by omega)]), y7.cong (x_up_n (by omega))⟩
    · exact (s5.cp hN c2).cong (x_up_n (by omega))
    · rw [x_up_sn (by omega), k3 63 (by omega)]
      exact a2.1
