theorem g_Tn.tx {n : Nat} {σ σ' ρ ρ' : x_S} (h : g_Tn n σ' ρ') (hn : n ≤ 1500) (h0 : g_Tx σ ρ) (f : x_ft σ σ') (g : m_ft ρ ρ') : g_Tx σ' ρ' := by
  obtain ⟨m, -, -, -, -, e1, e2⟩ := h0
  exact ⟨n, hn, h.1, h.2.1, h.2.2, by rw [f.2 2 (by omega), g.2 33 (by omega) (by omega)]; exact e1, by rw [f.2 3 (by omega), g.2 34 (by omega) (by omega)]; exact e2⟩
theorem m_ft.up5 (ρ : x_S) : m_ft ρ (x_up ρ 0 5 0) := ⟨fun z a b => x_up_n a, fun i a b => x_up_sn b⟩
theorem z_0 : z_p0 g_R := by
  intro σ τ ρ θ hR v1 v2 v3 v4 v5
  obtain ⟨N, C, w, hX, hM, hV⟩ := id hR
  obtain ⟨n, hn, h1, h2, h3, -⟩ := id hV.2.2.1
  have em : ((x_up ρ 0 5 0) 0 31 : Int32) = nI n := by rw [x_up_sn (by omega), h2]
  have T0 : g_Tn n σ (x_up ρ 0 5 0) := ⟨h1, em, by rw [x_up_n (show (21 : Nat) ≠ 0 by omega)]; exact h3⟩
  have e20 : (nI n + 20 : Int32) = nI (n + 20) := nI_add n 20
  unfold wX10_appendInput
  rw [h1, e20]
  refine i_le (b := 1500) (by omega) (by omega) (fun c => ?_) (fun c => ?_)
  · refine sX_append (by omega) h1 (fun σ1 f1 a1 b1 c1 => sX_append (by omega) a1 (fun σ2 f2 a2 b2 c2 => sX_append (by omega) a2 (fun σ3 f3 a3 b3 c3 => sX_append (by omega) a3 (fun σ4 f4 a4 b4 c4 => sX_append (by omega) a4 (fun σ5 f5 a5 b5 c5 => ?_)))))
    unfold wX11_appendInput
    rw [em, e20]
    refine i_le (b := 1500) (by omega) (by omega) (fun _ => ?_) (fun g => absurd g (by omega))
    refine sM_append (by omega) em (fun ρ1 g1 a1' b1' c1' => sM_append (by omega) a1' (fun ρ2 g2 a2' b2' c2' => sM_append (by omega) a2' (fun ρ3 g3 a3' b3' c3' => sM_append (by omega) a3' (fun ρ4 g4 a4' b4' c4' => sM_append (by omega) a4' (fun ρ5 g5 a5' b5' c5' => ?_)))))
    have T1 := T0.ap a1 b1 c1 a1' b1' c1'
    have T2 := T1.ap a2 b2 c2 a2' b2' c2'
    have T3 := T2.ap a3 b3 c3 a3' b3' c3'
    have T4 := T3.ap a4 b4 c4 a4' b4' c4'
    have T5 := T4.ap a5 b5 c5 a5' b5' c5'
    have f := (((f1.tr f2).tr f3).tr f4).tr f5
    have g := ((((m_ft.up5 ρ).tr g1).tr g2).tr g3).tr (g4.tr g5)
    refine ⟨by rw [T5.1, T5.2.1], hR.ft f g (T5.tx (by omega) hV.2.2.1 f g)⟩
  · unfold wX11_appendInput
    rw [em, e20]
    exact i_le (b := 1500) (by omega) (by omega) (fun g => absurd g (by omega)) (fun _ => ⟨rfl, hR.fr (x_fq.rf _) rfl (m_fr.up0 (Or.inl rfl))⟩)
theorem z_1 : z_p1 g_R := by
  intro σ τ ρ θ hR a
  obtain ⟨N, C, w, hX, hM, hV⟩ := id hR
  obtain ⟨n, hn, h1, h2, h3, -⟩ := id hV.2.2.1
  have em : ((x_up ρ 0 5 0) 0 31 : Int32) = nI n := by rw [x_up_sn (by omega), h2]
  have eh : ((nI n).toInt64).toInt = ((n + 1 : Nat) : Int) - 1 := by
    rw [Int32.toInt_toInt64, nI_toInt (by omega)]
    omega
  have key : ¬ g_rn a 0 (n + 1) → wX11_truncateInput a ρ θ (fun r' ρ1 θ1 => -1 = r' ∧ g_R σ τ ρ1 θ1) := fun c => by
    unfold wX11_truncateInput
    rw [em]
    exact sM_inr (l := 0) (n := n + 1) (by omega) (by decide) eh (fun g => absurd g c) (fun _ => i_zer' ⟨rfl, hR.fr (x_fq.rf _) rfl (m_fr.up0 (Or.inl rfl))⟩)
  unfold wX10_truncateInput wX10_truncateInput_15
  rw [h1]
  by_cases c : g_rn a 0 (n + 1)
  · obtain ⟨t, -, ht, rfl⟩ := id c
    refine i_neg (by omega) (i_le (by omega) (by omega) (fun _ => ?_) (fun g => absurd g (by omega)))
    unfold wX11_truncateInput
    rw [em]
    refine sM_inr (l := 0) (n := n + 1) (by omega) (by decide) eh (fun _ => i_one ?_) (fun g => absurd c g)
    have f : x_ft σ (x_up σ 1 1 (nI t)) := ⟨fun z a b => x_up_n a, fun i hi => x_up_sn hi⟩
    have g : m_ft ρ (x_up (x_up ρ 0 5 0) 0 31 (nI t)) := ⟨fun z a b => by rw [x_up_n a, x_up_n a], fun i a b => by rw [x_up_sn a, x_up_sn b]⟩
    have T : g_Tn t (x_up σ 1 1 (nI t)) (x_up (x_up ρ 0 5 0) 0 31 (nI t)) := ⟨x_up_ss _ _ _ _, x_up_ss _ _ _ _, fun i hi => by
      rw [x_up_n (show (2 : Nat) ≠ 1 by omega), x_up_n (show (21 : Nat) ≠ 0 by omega), x_up_n (show (21 : Nat) ≠ 0 by omega)]
      exact h3 i (by omega)⟩
    exact ⟨rfl, hR.ft f g (T.tx (by omega) hV.2.2.1 f g)⟩
  · refine ⟨fun _ => key c, fun g => ⟨fun g2 => absurd ?_ c, fun _ => key c⟩⟩
    obtain ⟨j, hj, rfl⟩ := nI_of g
    exact ⟨j, Nat.zero_le _, by have := (nI_leI hj (by omega)).mp g2; omega, rfl⟩
