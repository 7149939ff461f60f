section OL
variable {N C : g_F} {w : Nat → Nat} {σ ρ : x_S} {τ θ : x_L}
theorem sM_isLong (hN : g_WN N) (hL : m_L N C ρ) {s m : Nat} (hs : g_is N s) (htog : g_tog N C s = m) (g17 : ρ 0 17 = nI (s / 10)) (g18 : ρ 0 18 = nI (s % 10)) {Q : Int32 → x_S → x_L → Prop} (h0 : m ≤ 6 → Q 0 ρ θ) (h1 : 6 < m → Q 1 ρ θ) : wX11_isLong ρ θ Q := by
  have hl := g_is_lt hN hs
  have hm := g_tog_b (C := C) hN s
  unfold wX11_isLong wX11_isLong_26
  rw [g17, g18]
  refine sM_spot ?_
  rw [show 10 * (s / 10) + s % 10 = s by omega, i_cl (by omega), (hL.2.2.1 s hs).2, htog]
  exact ⟨i_in hl (by omega), i_le (b := 6) (by omega) (by omega) (fun g => ⟨Or.inl rfl, h0 g⟩) (fun g => ⟨Or.inr rfl, h1 g⟩)⟩
theorem m_L.up5 {v : Int32} (h : m_L N C ρ) : m_L N C (x_up ρ 0 5 v) := by
  obtain ⟨a1, a2, a3, a4, a5⟩ := h
  refine ⟨a1.cong (x_up_n (by omega)) (x_up_n (by omega)), a2.cong (x_up_n (by omega)), a3.cong (x_up_n (by omega)) (x_up_n (by omega)), a4.cong (x_up_n (by omega)), fun s hs => ?_⟩
  have := a5 s hs
  unfold m_S at this ⊢
  rw [x_up_n (show (10 : Nat) ≠ 0 by omega), x_up_n (show (11 : Nat) ≠ 0 by omega), x_up_n (show (12 : Nat) ≠ 0 by omega)]
  exact this
end OL
theorem z_34 : z_p34 g_R := by
  intro σ τ ρ θ hR a b
  obtain ⟨N, C, w, hX, hM, hV⟩ := id hR
  obtain ⟨hN, hW, hF, hR0, hC, hA, hB⟩ := id hX
  unfold wL_orderLoss wX10_orderLoss wX10_checkOrdered
  refine sX_chkPlatoon hX (fun c => ?_) (fun c => Or.inl ⟨rfl, ?_⟩)
  · obtain ⟨r, p, hr, hp, rfl, rfl⟩ := c
    obtain ⟨e, k, hO, hk⟩ := hA.2.2.2.1 r hr
    rw [hO.pon hN hW hA.2.2.1 hr hk] at hp
    have hlt := (hO.2 p hp).1.1
    have h0 := hO.le (show p ≤ k by omega) (Nat.zero_le p)
    have h1 := hO.le (Nat.le_refl k) (show p + 1 ≤ k by omega)
    rw [hO.1] at h0
    have b1 := g_bg_b N (r + 1)
    have be := g_bg_mono N (show r + 1 ≤ N 0 0 from hr)
    have hG := (hO.2 p hp).1
    have hsr := (hO.2 p hp).2.1
    have hs := (hG.2.1 _ (Nat.le_refl _) hlt).1
    have htog := hG.tog hN hW (Nat.le_refl _) hlt
    obtain ⟨m, em⟩ : ∃ m, e (p + 1) = e p + m := ⟨e (p + 1) - e p, by omega⟩
    refine sX_firstOf hX hr hO hk hp (sX_afterPlatoon hX hr hO hk hp ?_)
    rw [em] at hG hsr hlt htog h1 ⊢
    rw [show e p + m - e p = m by omega] at htog
    rw [nI_sub (by omega), show e p + m - e p = m by omega]
    refine i_le (b := 6) (by omega) (by omega) (fun hm6 => ?_) (fun hm6 => Or.inr ⟨rfl, ?_⟩)
    · obtain ⟨c0, r0, hck, hid, hlen⟩ := p_all (show 1 ≤ m by omega) hm6
      refine sX_search hN hW hF hR0 hC (by omega) hm6 (by omega) (fun i hi => hA.2.1 (e p + i) (by omega)) hG hck hid hlen (fun σ' fz q4 q62 => ?_)
      refine sX_value (w := w) hN hW (hF.cong (fun z hz => fz z (by omega))) (hR0.cong (fun z hz => fz z (by omega))) (hC.cong (fun z hz => fz z (by omega))) (by omega) (by omega) (by omega) (fun j hj => by rw [fz 39 (by omega)]; exact hA.2.1 j (by omega)) (fun j a1 a2 => (hG.2.1 j a1 a2).1) ?_
      unfold wX11_orderLoss
      refine sM_platY hX hM hr hO hk hp (fun ρ' f h5 hM' hL g1 g2 => i_zer' (sM_isLong hN hL hs htog g1 g2 (fun _ => sM_thr0 (i_zer ?_)) (fun y => absurd y (by omega))))
      refine sM_layBest hM' hL (by omega) hm6 hG hsr g1 g2 hck hid (fun ρ2 f2 y26 y18 => ?_)
      rw [q4, y26]
      exact q_ok (hR.fr fz.fq rfl (f.tr f2.fr)) (by rw [f2.2 5 (by omega)]; exact h5)
    · unfold wX11_orderLoss wX11_orderLoss_26
      refine sM_platY hX hM hr hO hk hp (fun ρ' f h5 hM' hL g1 g2 => i_zer' (sM_isLong hN hL hs htog g1 g2 (fun y => absurd y (by omega)) (fun _ => sM_thr1 (i_one' ?_))))
      exact q_no (hR.fr (x_fq.rf _) rfl (f.up5 2)) (x_up_ss _ _ _ _) (by decide)
  · unfold wX11_orderLoss wX11_orderLoss_26
    exact sM_platN hX hM c (fun ρ' f h5 => i_one (q_no (hR.fr (x_fq.rf _) rfl f) h5 (by decide)))
theorem z_35 : z_p35 g_R := by
  intro σ τ ρ θ hR a b c3
  obtain ⟨N, C, w, hX, hM, hV⟩ := id hR
  obtain ⟨hN, hW, hF, hR0, hC, hA, hB⟩ := id hX
  unfold wL_bestMember wX10_bestMember wX10_checkOrdered wX10_checkPosition
  refine sX_chkPlatoon hX (fun c => ?_) (fun c => Or.inl ⟨rfl, ?_⟩)
  · obtain ⟨r, p, hr, hp, rfl, rfl⟩ := c
    obtain ⟨e, k, hO, hk⟩ := hA.2.2.2.1 r hr
    rw [hO.pon hN hW hA.2.2.1 hr hk] at hp
    have hlt := (hO.2 p hp).1.1
    have h0 := hO.le (show p ≤ k by omega) (Nat.zero_le p)
    have h1 := hO.le (Nat.le_refl k) (show p + 1 ≤ k by omega)
    rw [hO.1] at h0
    have b1 := g_bg_b N (r + 1)
    have be := g_bg_mono N (show r + 1 ≤ N 0 0 from hr)
    have hG := (hO.2 p hp).1
    have hsr := (hO.2 p hp).2.1
    have hs := (hG.2.1 _ (Nat.le_refl _) hlt).1
    have hls := g_is_lt hN hs
    have htog := hG.tog hN hW (Nat.le_refl _) hlt
    have htb := g_tog_b (C := C) hN (w (e p))
    obtain ⟨m, em⟩ : ∃ m, e (p + 1) = e p + m := ⟨e (p + 1) - e p, by omega⟩
    refine ⟨fun g => sX_firstOf hX hr hO hk hp (sX_afterPlatoon hX hr hO hk hp ?_), fun g => Or.inl ⟨rfl, ?_⟩⟩
    · obtain ⟨x, hx, rfl⟩ := nI_of (fun z : c3 < 0 => Int32.lt_irrefl (Int32.lt_of_le_of_lt g z))
      rw [em] at hG hsr hlt htog h1 ⊢
      rw [show e p + m - e p = m by omega] at htog
      rw [nI_sub (by omega), show e p + m - e p = m by omega]
      refine i_le (b := 6) (by omega) (by omega) (fun hm6 => ?_) (fun hm6 => Or.inr ⟨rfl, ?_⟩)
      · obtain ⟨c0, r0, hck, hid, hlen⟩ := p_all (show 1 ≤ m by omega) hm6
        have ref : ∀ (σ' : x_S) (v : Int32), x_fz σ σ' → (∀ ρ2 : x_S, (∀ j, j < m → ρ2 18 j = nI (p_st (p_A N C (w (e p))) (p_d (p_fold (p_vl N C (w (e p)) m) r0 c0) j) / 10)) → v = if x < m then ρ2 18 x else -1) → wX11_bestMember (nI r) (nI p) (nI x) ρ θ (fun b ρ1 θ1 => wX11_thrown ρ1 θ1 (fun th ρ2 θ2 => th = 0 ∧ ((0 : Int32) = 0 → (x_upL τ 87 0 v.toInt64) 87 0 = b.toInt64) ∧ g_R σ' (x_upL τ 87 0 v.toInt64) ρ2 θ2)) := fun σ' v fz hv => by
          unfold wX11_bestMember wX11_bestMember_24 wX11_bestMember_81
          refine sM_platY hX hM hr hO hk hp (fun ρ' f h5 hM' hL g1 g2 => i_zer' ⟨fun _ => sM_thr0 (i_zer' (sM_isLong hN hL hs htog g1 g2 (fun _ => sM_thr0 (i_zer ?_)) (fun y => absurd y (by omega)))), fun z => absurd g z⟩)
          refine sM_layBest hM' hL (by omega) hm6 hG hsr g1 g2 hck hid (fun ρ2 f2 y26 y18 => ?_)
          have hv2 := hv ρ2 y18
          rw [f2.2 17 (by omega), f2.2 18 (by omega), g1, g2]
          refine sM_spot ?_
          rw [show 10 * (w (e p) / 10) + w (e p) % 10 = w (e p) by omega, i_cl (by omega), f2.1 7 (by omega) (by omega), (hL.2.2.1 _ hs).2, htog]
          have hRf : g_R σ' τ ρ2 θ := hR.fr fz.fq rfl (f.tr f2.fr)
          have h52 : ρ2 0 5 = 0 := by rw [f2.2 5 (by omega)]; exact h5
          refine ⟨i_in hls (by omega), fun y => ?_, fun y => ?_⟩
          · have y2 := (nI_leI (by omega) hx).mp y
            rw [if_neg (by omega)] at hv2
            rw [← hv2]
            exact q_ok hRf h52
          · have y2 : x < m := Nat.lt_of_not_le fun z => y ((nI_leI (by omega) hx).mpr z)
            rw [if_pos y2] at hv2
            rw [i_cl (by omega), ← hv2]
            exact ⟨i_in (by omega) (by omega), q_ok hRf h52⟩
        refine ⟨fun y => ?_, fun y => ?_⟩
        · have y2 := (nI_ltI hx (by omega)).mp y
          refine sX_search hN hW hF hR0 hC (by omega) hm6 (by omega) (fun i hi => hA.2.1 (e p + i) (by omega)) hG hck hid hlen (fun σ' fz q4 q62 => ?_)
          have hmem := p_st_mem hN hW hG (p_ck_fold (p_vl N C (w (e p)) m) hck x y2)
          rw [i_cl (by omega), q62 x y2, show (nI (p_st (p_A N C (w (e p))) (p_d (p_fold (p_vl N C (w (e p)) m) r0 c0) x)) / 10 : Int32) = nI (p_st (p_A N C (w (e p))) (p_d (p_fold (p_vl N C (w (e p)) m) r0 c0) x) / 10) from nI_div (b := 10) (by omega) (by omega) (by omega)]
          exact ⟨i_in (by omega) (by omega), ref σ' _ fz (fun ρ2 h18 => by rw [if_pos y2, h18 x y2])⟩
        · have y2 : ¬ x < m := fun z => y ((nI_ltI hx (by omega)).mpr z)
          exact ref σ (-1) (fun _ _ => rfl) (fun ρ2 _ => by rw [if_neg y2])
      · unfold wX11_bestMember wX11_bestMember_24 wX11_bestMember_43
        refine sM_platY hX hM hr hO hk hp (fun ρ' f h5 hM' hL g1 g2 => i_zer' ⟨fun _ => sM_thr0 (i_zer' (sM_isLong hN hL hs htog g1 g2 (fun y => absurd y (by omega)) (fun _ => sM_thr1 (i_one' ?_)))), fun z => absurd g z⟩)
        exact q_no (hR.fr (x_fq.rf _) rfl (f.up5 2)) (x_up_ss _ _ _ _) (by decide)
    · unfold wX11_bestMember wX11_bestMember_24 wX11_bestMember_43
      refine sM_platY hX hM hr hO hk hp (fun ρ' f h5 hM' hL g1 g2 => i_zer' ⟨fun z => absurd z g, fun _ => sM_thr1 (i_one ?_)⟩)
      exact q_no (hR.fr (x_fq.rf _) rfl (f.up5 1)) (x_up_ss _ _ _ _) (by decide)
  · unfold wX11_bestMember wX11_bestMember_43
    exact sM_platN hX hM c (fun ρ' f h5 => i_one (q_no (hR.fr (x_fq.rf _) rfl f) h5 (by decide)))
