theorem fl_q {n m : Nat} (hn : n < 1000000000) (h0 : 0 < m) (hm : m < 1000000000) : FP.Core.val32 (FP.fdiv (FP.i2f (nI n)) (FP.i2f (nI m))) ≠ .nan := by
  obtain ⟨d, r, hy, hr⟩ := fl_i2f h0 hm
  have hlm : m.log2 < 31 := (Nat.log2_lt (by omega)).mpr (by omega)
  by_cases e : n = 0
  · subst e
    rw [fl_div0 fl_i2f0 hy]
    intro g
    cases g
  · obtain ⟨c, q, hx, hq⟩ := fl_i2f (show 0 < n by omega) hn
    have hln : n.log2 < 31 := (Nat.log2_lt (by omega)).mpr (by omega)
    obtain ⟨c', q', g, -⟩ := fl_div hx hy (by omega) (by omega)
    rw [g.1]
    intro g
    cases g
theorem fl_same {x : UInt32} (h : FP.Core.val32 x ≠ .nan) : Op.cmpValue (FP.dcmp ((FP.f2d x).toInt64).toUInt64 (FP.f2d x)) .l = 0 := by
  have e : ((FP.f2d x).toInt64).toUInt64 = FP.f2d x := rfl
  rw [e, show FP.dcmp (FP.f2d x) (FP.f2d x) = some .eq from FP.Core.dcmp_self (fl_d64 h)]
  rfl
theorem g_km_pos {N : g_F} (hN : g_WN N) {t : Nat} (ht : t < N 0 1) : 0 < g_trk N (fun s => N 3 (N 9 s)) t ∧ g_trk N (fun s => N 3 (N 9 s)) t ≤ 3000 := by
  have h10 := (hN.2.2.1 t ht).2.2.2.2
  have hr : ∀ s, g_is N s → 1 ≤ N 3 (N 9 s) ∧ N 3 (N 9 s) ≤ 300 := fun s hs => by
    have := hN.2.1 _ (g_road_lt hN hs)
    omega
  refine ⟨?_, ?_⟩
  · have h0 : g_sum (fun _ => 0) (N 8 t) < g_sum (fun q => N 3 (N 9 (10 * t + q))) (N 8 t) := g_sum_lt (a := 0) (fun i _ => Nat.zero_le _) (by omega) (by
      have := (hr _ (g_is_of hN ht (show 0 < N 8 t by omega)).1).1
      omega)
    show 0 < g_sum (fun q => N 3 (N 9 (10 * t + q))) (N 8 t)
    omega
  · have := g_trk_b hN ht (f := fun s => N 3 (N 9 s)) (b := 300) (fun s hs => (hr s hs).2)
    omega
theorem z_36 : z_p36 g_R := by
  intro σ τ ρ θ hR a
  obtain ⟨N, C, w, hX, hM, hV⟩ := id hR
  obtain ⟨hN, hW, hF, hR0, hC, hA, hB⟩ := id hX
  have hM0 := hM.fr (m_fr.up0 (v := 0) (Or.inl rfl))
  unfold wL_rate wX10_rate
  refine sX_chkTruck hN hF (fun c => ?_) (fun c => ⟨rfl, ?_⟩)
  · obtain ⟨t, ht, rfl⟩ := id c
    obtain ⟨k1, k2⟩ := g_km_pos hN ht
    have hfu := g_trk_b hN ht (f := g_fuel N C) (b := 153300) (fun s hs => g_fuel_b hN hW hs)
    have hq := fl_q (n := g_trk N (g_fuel N C) t) (m := g_trk N (fun s => N 3 (N 9 s)) t) (by omega) k1 (by omega)
    refine sX_km hN hF ht (i_ne (b := 0) (by omega) (by omega) (fun _ => ?_) (fun g => absurd g (by omega)))
    refine sX_fuelOf hX ht ⟨fl_nn hq, ?_⟩
    unfold wX10_rate_34
    refine ⟨fl_nn64 (fl_d64 hq), ?_⟩
    unfold wX11_rate wX11_rate_19
    refine sM_isTruck hN hM0.2.2.1 (fun _ => i_one (sM_thr0 (i_zer ?_))) (fun g => absurd c g)
    refine sM_begin hM (fun ρ' f h5 hM' hL => ?_)
    refine sM_sumOf (k := 0) hN hW hM'.2.2.1 hM'.2.2.2 hL.2.2.2.2 ht (by omega) ?_
    refine sM_sumOf (k := 4) hN hW hM'.2.2.1 hM'.2.2.2 hL.2.2.2.2 ht (by omega) ?_
    rw [g_what_0, g_what_4]
    refine ⟨fl_nn hq, ?_⟩
    unfold wX11_thrown
    refine ⟨h5, fun _ => ⟨fl_nn64 (fl_d64 hq), ?_⟩, hR.fr (x_fq.rf _) (x_upL_n (by omega)) f⟩
    rw [x_upL_ss]
    exact fl_same hq
  · unfold wX11_rate wX11_rate_19
    refine sM_isTruck hN hM0.2.2.1 (fun g => absurd g c) (fun _ => i_zer' (sM_thr1 (i_one' ?_)))
    unfold wX11_thrown
    exact ⟨x_up_ss _ _ _ _, fun g => absurd g (by decide), hR.fr (x_fq.rf _) rfl ((m_fr.up0 (Or.inl rfl)).up5 1)⟩
