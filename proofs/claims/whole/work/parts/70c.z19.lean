/-! the needed speed, asked -/
theorem y_19 {N C : g_F} {w : Nat → Nat} {σ ρ : x_S} {τ θ : x_L} {t q m : Nat} {QX : x_PE} (hR : g_R σ τ ρ θ) (hX : g_X N C w σ τ) (hM : g_M N C ρ) (ht : t < N 0 1) (hq : q < N 8 t) (c : g_rp N (nI t) (nI q)) (d : g_rn (nI m) 0 (20000 + 1)) (m2 : m ≤ 20000) : x_l4 (wX10_neededSpeed_37 (fun r σ τ => wX11_neededSpeed (nI t) (nI q) (nI m) ρ θ (fun b ρ1 θ1 => wX11_thrown ρ1 θ1 (fun th ρ2 θ2 => th = 0 ∧ ((0 : Int32) = 0 → (x_upL τ 87 0 r.toInt64) 87 0 = b.toInt64) ∧ g_R σ (x_upL τ 87 0 r.toInt64) ρ2 θ2))) QX) (nI m) (nI (10 * t + q)) (nI (N 9 (10 * t + q))) 40 σ τ := by
  obtain ⟨hN, hW, hF, hR0, hC, hA, hB⟩ := id hX
  have hs := (g_is_of hN ht hq).1
  rcases g_need N C (10 * t + q) m with ⟨v, v1, v2, v3, v4⟩ | v4
  · exact sX_need1 hN hW hF hA.1 hs m2 v1 v2 v3 v4 (m_need hM c d _ (fun ρ' f h5 hM' hL => sM_need1 hN hW hM'.2.2.1 hL.1 ht hq m2 v1 v2 v3 v4 (q_ok (hR.fr (x_fq.rf _) rfl f) h5)))
  · exact sX_need0 hN hW hF hA.1 hs m2 v4 (m_need hM c d _ (fun ρ' f h5 hM' hL => sM_need0 hN hW hM'.2.2.1 hL.1 ht hq m2 v4 (q_ok (hR.fr (x_fq.rf _) rfl f) h5)))
set_option maxHeartbeats 100000 in
theorem z_19a : (20000 : Int32) = nI 20000 := rfl
set_option maxHeartbeats 100000 in
theorem z_19b {N C : g_F} {w : Nat → Nat} {σ : x_S} {τ : x_L} {a b c3 : Int32} {Q : Int32 → x_S → x_L → Prop} {QX : x_PE} (hX : g_X N C w σ τ) (e20 : (20000 : Int32) = nI 20000) (h1 : g_rp N a b → g_rn c3 0 (20000 + 1) → wX10_stopAt a b σ τ (fun r16 σ16 τ16 => vp_in r16 120 ∧ (x_l4 (wX10_neededSpeed_37 Q QX) c3 r16 (σ16 12 r16.toNatClampNeg) 40 σ16 τ16))) (h2 : ¬ g_rp N a b → QX eIO σ τ) (h3 : g_rp N a b → ¬ g_rn c3 0 (20000 + 1) → QX eIA σ τ) : wX10_neededSpeed a b c3 σ τ Q QX := by
  unfold wX10_neededSpeed
  refine sX_chkPlace hX.1 hX.2.2.1 (fun c => ?_) h2
  exact sX_chkRangeE (l := 0) (m := 20000) (by decide) (by decide) rfl e20 (h1 c) (h3 c)
set_option maxHeartbeats 100000 in
theorem z_19 : z_p19 g_R := by
  intro σ τ ρ θ hR a b c3
  obtain ⟨N, C, w, hX, hM, hV⟩ := id hR
  unfold wL_neededSpeed
  apply z_19b hX z_19a
  · intro c d
    obtain ⟨t, q, ht, hq, rfl, rfl⟩ := id c
    obtain ⟨m, m0, m1, rfl⟩ := id d
    obtain ⟨hs, e1, e2, b1, b2, b3⟩ := g_is_of hX.1 ht hq
    refine sX_stopAt ⟨i_in b1 (by omega), ?_⟩
    rw [i_cl (by omega), hX.2.2.1.2.2.2 _ hs]
    exact y_19 hR hX hM ht hq c d (by omega)
  · intro c
    left
    exact ⟨rfl, m_need3 hR hM c⟩
  · intro c d
    right
    exact ⟨rfl, m_need2 hR hM c d⟩
