/-! load: a fleet taken over by both -/
section LD
variable {N C : g_F} {w : Nat → Nat} {σ ρ : x_S} {τ θ : x_L}
theorem sX_prepare (hN : g_WN N) (hF : f_F N σ) {Q : x_S → x_L → Prop} (h : ∀ (σ' : x_S) (τ' : x_L), (∀ z, z < 28 ∨ 31 < z → σ' z = σ z) → f_R N σ' τ' → (∀ i, i < g_bg N (N 0 0) → σ' 28 i = nI (g_W N i)) → Q σ' τ') : wX7_prepare σ τ Q := by
  have hb := hN.1
  refine sX_prepare1 hN hF (fun σ1 f1 h30 => ?_)
  refine sX_listByRoad hN (hF.cong (fun z hz => f1 z (by omega))) h30 (fun σ2 f2 h29 h28 => ?_)
  have h30b : ∀ t, t < N 0 1 → σ2 30 t = nI (10 * t + N 8 t) := fun t ht => by rw [f2 30 (by omega) (by omega)]; exact h30 t ht
  have hF2 : f_F N σ2 := hF.cong (fun z hz => by rw [f2 z (by omega) (by omega)]; exact f1 z (by omega))
  refine sX_setNext hN hF2 h30b (fun σ3 f3 h31 => ?_)
  have hF3 : f_F N σ3 := hF2.cong (fun z hz => f3 z (by omega))
  have h30c : ∀ t, t < N 0 1 → σ3 30 t = nI (10 * t + N 8 t) := fun t ht => by rw [f3 30 (by omega)]; exact h30b t ht
  refine x_S1 (fun t σ' τ' => σ3 = σ' ∧ ∀ s s', g_is N s → g_is N s' → s / 10 < t → nb (τ' 32 (12 * s + s' / 10)) (s' % 10) = nI (g_shr N s s')) (fun t => nI t) (lo := 0) (n := N 0 1) (Nat.zero_le _) (fun K t σ4 τ4 _ ht hP hK => ?_) (fun K σ4 τ4 hP => ?_) ⟨rfl, fun s s' _ _ c => absurd c (by omega)⟩ rfl
  · obtain ⟨rfl, p1⟩ := hP
    unfold wX7_prepare_48
    rw [hF3.1.2]
    refine i_le (by omega) (by omega) (fun g => absurd g (by omega)) (fun _ => ?_)
    refine x_S2 (fun o σ' τ' => σ3 = σ' ∧ ∀ s s', g_is N s → g_is N s' → s / 10 < t ∨ (s / 10 = t ∧ s' / 10 < o) → nb (τ' 32 (12 * s + s' / 10)) (s' % 10) = nI (g_shr N s s')) (fun _ => nI t) (fun o => nI o) (lo := 0) (n := N 0 1) (Nat.zero_le _) (fun K2 o σ5 τ5 _ ho hP hK2 => ?_) (fun K2 σ5 τ5 hP => ?_) ⟨rfl, fun s s' a c d => p1 s s' a c (by omega)⟩ rfl rfl
    · obtain ⟨rfl, q1⟩ := hP
      unfold wX7_prepare_61
      rw [hF3.1.2, show (nI o + 1 : Int32) = nI (o + 1) from nI_add o 1]
      refine i_le (by omega) (by omega) (fun g => absurd g (by omega)) (fun _ => ?_)
      refine sX_setShared hN hF3 h30c h31 ht ho (fun τ6 g1 g2 g3 => hK2 _ _ ⟨rfl, fun s s' hs hs' c => ?_⟩)
      have hs1 := hs.2
      have hs2 := hs'.2
      by_cases z : s / 10 = t ∧ s' / 10 = o
      · have := g3 (s % 10) (s' % 10) (by rw [← z.1]; exact hs1) (by rw [← z.2]; exact hs2)
        rw [show 10 * t + s % 10 = s by omega, show 10 * o + s' % 10 = s' by omega] at this
        rw [z.2]
        exact this
      · have hs3 := hs'.1
        have h10 := (hN.2.2.1 t ht).2.2.2.2
        rw [g2 _ (fun q hq e => z (by omega))]
        exact q1 s s' hs hs' (by omega)
    · obtain ⟨rfl, q1⟩ := hP
      unfold wX7_prepare_61
      rw [hF3.1.2, show (nI t + 1 : Int32) = nI (t + 1) from nI_add t 1]
      refine i_le (by omega) (by omega) (fun _ => hK _ _ ⟨rfl, fun s s' hs hs' c => q1 s s' hs hs' ?_⟩) (fun g => absurd g (by omega))
      have := hs'.1
      omega
  · obtain ⟨rfl, p1⟩ := hP
    unfold wX7_prepare_48
    rw [hF3.1.2]
    refine i_le (by omega) (by omega) (fun _ => h σ3 τ4 (fun z hz => ?_) ⟨h30c, h31, fun r hr => ?_, fun s s' hs hs' => p1 s s' hs hs' hs.1⟩ (fun i hi => ?_)) (fun g => absurd g (by omega))
    · rw [f3 z (by omega), f2 z (by omega) (by omega)]
      exact f1 z (by omega)
    · rw [f3 29 (by omega)]
      exact h29 r hr
    · rw [f3 28 (by omega)]
      exact h28 i hi
theorem m_F.lt {ρ' : x_S} (hN : g_WN N) (h : m_F N ρ) (f : ∀ i, i < 290 → ρ' 3 i = ρ 3 i) : m_F N ρ' := by
  have hb := hN.1
  obtain ⟨⟨h1, h2⟩, h3, h4, h5⟩ := h
  refine ⟨⟨by rw [f _ (by omega)]; exact h1, by rw [f _ (by omega)]; exact h2⟩, fun r hr => ?_, fun t ht => ?_, fun s hs => ?_⟩
  · rw [f _ (by omega), f _ (by omega), f _ (by omega), f _ (by omega)]
    exact h3 r hr
  · rw [f _ (by omega), f _ (by omega), f _ (by omega), f _ (by omega)]
    exact h4 t ht
  · have := hs.1
    rw [f _ (by omega)]
    exact h5 s hs
theorem g_R.ld {σ' ρ' : x_S} {θ' : x_L} (h : g_R σ τ ρ θ) (f : ∀ z, z ≠ 1 → z < 14 ∨ 23 < z → σ' z = σ z) (g : ∀ z, z ≠ 0 → z ≠ 3 → ρ' z = ρ z) (g3 : ∀ i, i < 290 → ρ' 3 i = ρ 3 i) (g0 : ∀ i, i = 2 ∨ i = 3 ∨ i = 29 → ρ' 0 i = ρ 0 i) (ho : g_Tx σ' ρ') : g_R σ' τ ρ' θ' := by
  obtain ⟨N, C, w, ⟨h1, h2, h3, h4, h5, h6, h7⟩, hM, ⟨P, n, l, k, g1⟩, g2, g3', g4⟩ := h
  refine ⟨N, C, w, ⟨h1, h2, ?_, h4.cong (fun z hz => f z (by omega) (by omega)), h5.cong (fun z hz => f z (by omega) (by omega)), h6.cong (fun z a c => f z (by omega) (by omega)) (by rw [f 33 (by omega) (by omega)]), h7.cong (f 28 (by omega) (by omega))⟩, ⟨hM.1, hM.2.1, hM.2.2.1.lt hM.1 g3, hM.2.2.2.cong (g 1 (by omega) (by omega))⟩, ⟨P, n, l, k, g1.fr (fun z a c => f z (by omega) (by omega)) (g 1 (by omega) (by omega)) (g0 2 (by omega)) (g0 3 (by omega))⟩, g2.fr (fun z a c => f z (by omega) (by omega)) (g 1 (by omega) (by omega)) (g 2 (by omega) (by omega)), ho, ?_⟩
  · unfold f_F at h3 ⊢
    rw [f 3 (by omega) (by omega), f 4 (by omega) (by omega), f 5 (by omega) (by omega), f 6 (by omega) (by omega), f 7 (by omega) (by omega), f 8 (by omega) (by omega), f 9 (by omega) (by omega), f 10 (by omega) (by omega), f 11 (by omega) (by omega), f 12 (by omega) (by omega)]
    exact h3
  · unfold g_Ou at g4 ⊢
    rw [f 84 (by omega) (by omega), f 85 (by omega) (by omega), g 20 (by omega) (by omega), g0 29 (by omega)]
    exact g4
end LD
theorem z_2 : z_p2 g_R := by
  intro σ τ ρ θ hR
  obtain ⟨N, C, w, hX, hM, hV⟩ := id hR
  obtain ⟨⟨P, hn0, l, kf, hH⟩, hS, ⟨n, hn, h1, h2, h3, -⟩, nO, hO1, hO2⟩ := id hV
  obtain ⟨⟨b1, b2, b3⟩, ⟨hl, -, hf, -⟩, -⟩ := hH
  have e290 : (290 : Int32).toNatClampNeg = 290 := rfl
  have e291 : (291 : Int32).toNatClampNeg = 291 := rfl
  generalize hs0 : x_up (x_up (x_up σ 1 6 0) 1 2 0) 1 3 (-1) = s0
  generalize hr0 : x_up (x_up (x_up (x_up (x_up (x_up ρ 0 5 0) 3 290 0) 3 291 0) 0 33 0) 0 34 (-1)) 0 32 0 = r0
  have s0z : ∀ z, z ≠ 1 → s0 z = σ z := fun z hz => by rw [← hs0, x_up_n hz, x_up_n hz, x_up_n hz]
  have s01 : s0 1 1 = nI n := by rw [← hs0, x_up_sn (by omega), x_up_sn (by omega), x_up_sn (by omega)]; exact h1
  have s06 : s0 1 6 = nI 0 := by rw [← hs0, x_up_sn (by omega), x_up_sn (by omega), x_up_ss]; rfl
  have s02 : s0 1 2 = 0 := by rw [← hs0, x_up_sn (by omega), x_up_ss]
  have s03 : s0 1 3 = -1 := by rw [← hs0, x_up_ss]
  have r0z : ∀ z, z ≠ 0 → z ≠ 3 → r0 z = ρ z := fun z a c => by rw [← hr0, x_up_n a, x_up_n a, x_up_n a, x_up_n c, x_up_n c, x_up_n a]
  have r03 : ∀ i, i ≠ 290 → i ≠ 291 → r0 3 i = ρ 3 i := fun i a c => by rw [← hr0, x_up_n (by omega), x_up_n (by omega), x_up_n (by omega), x_up_sn c, x_up_sn a, x_up_n (by omega)]
  have r0a : r0 3 290 = 0 := by rw [← hr0, x_up_n (by omega), x_up_n (by omega), x_up_n (by omega), x_up_sn (by omega), x_up_ss]
  have r0b : r0 3 291 = 0 := by rw [← hr0, x_up_n (by omega), x_up_n (by omega), x_up_n (by omega), x_up_ss]
  have r0i : ∀ i, i ≠ 5 → i ≠ 32 → i ≠ 33 → i ≠ 34 → r0 0 i = ρ 0 i := fun i a c d e => by rw [← hr0, x_up_sn c, x_up_sn e, x_up_sn d, x_up_n (by omega), x_up_n (by omega), x_up_sn a]
  have r032 : r0 0 32 = nI 0 := by rw [← hr0, x_up_ss]; rfl
  have r033 : r0 0 33 = 0 := by rw [← hr0, x_up_sn (by omega), x_up_sn (by omega), x_up_ss]
  have r034 : r0 0 34 = -1 := by rw [← hr0, x_up_sn (by omega), x_up_ss]
  have tX : x_tb (σ 2) n s0 := ⟨hn, s01, fun i hi => ⟨by rw [s0z 2 (by omega)], (h3 i hi).2⟩⟩
  have tM : m_tb (σ 2) n r0 := ⟨hn, by rw [r0i 31 (by omega) (by omega) (by omega) (by omega)]; exact h2, fun i hi => ⟨by rw [r0z 21 (by omega) (by omega)]; exact (h3 i hi).1.symm, (h3 i hi).2⟩⟩
  unfold wX10_load wX9_open
  rw [hs0]
  have ref : ∀ (Q : Int32 → x_S → x_L → Prop), (∀ (M : g_F) (ρ' : x_S) (θ' : x_L) (v : Int32), t_all (σ 2) n 1501 0 (fun _ _ => 0) = .ok M → (∀ z, z ≠ 0 → z ≠ 3 → ρ' z = ρ z) → (∀ i, i < 32 ∨ 37 < i ∨ i = 33 ∨ i = 34 → ρ' 0 i = r0 0 i) → g_WN M → m_Dr M ρ' → ¬ v = 0 → wX11_load_48 Q v ρ' θ') → (∀ (c s : Nat) (ρ' : x_S) (θ' : x_L), t_all (σ 2) n 1501 0 (fun _ _ => 0) = .error (c, s) → (∀ z, z ≠ 0 → z ≠ 3 → ρ' z = ρ z) → (∀ i, i < 290 → ρ' 3 i = ρ 3 i) → (∀ i, i < 32 ∨ 37 < i → ρ' 0 i = r0 0 i) → ρ' 0 33 = nI c → ρ' 0 34 = nI s → wX11_load_48 Q 0 ρ' θ') → wX11_load ρ θ Q := fun Q k1 k0 => by
    unfold wX11_load wX11_beginText
    rw [e290, e291, hr0]
    refine sM_advance tM (Nat.zero_le _) r032 (fun ρ1 θ1 f1 kk1 => ?_)
    refine sM_readAll (tM.lf f1.tq.lf) kk1 ⟨⟨?_, ?_⟩, fun r hr => absurd hr (Nat.not_lt_zero _), fun r hr => absurd hr (Nat.not_lt_zero _), fun s hs => absurd hs.1 (Nat.not_lt_zero _)⟩ (fun M ρ2 θ2 v g1 f2 g2 g3 g4 => k1 M ρ2 θ2 v g1 (fun z a c => ?_) (fun i hi => ?_) g2 g3 g4) (fun c s ρ2 θ2 g1 f2 g2 g3 => k0 c s ρ2 θ2 g1 (fun z a c => ?_) (fun i hi => ?_) (fun i hi => ?_) g2 g3)
    · show ρ1 3 (290 + 0) = _
      rw [f1.1 3 (by omega)]
      exact r0a
    · show ρ1 3 (290 + 1) = _
      rw [f1.1 3 (by omega)]
      exact r0b
    · rw [f2.1 z a c, f1.1 z a]
      exact r0z z a c
    · rw [f2.2.1 i hi]
      exact f1.tq.2 i hi
    · rw [f2.1 z a c, f1.1 z a]
      exact r0z z a c
    · rw [f2.2.2 i hi, f1.1 3 (by omega)]
      exact r03 i (by omega) (by omega)
    · rw [f2.2.1 i hi]
      exact f1.tq.2 i (by omega)
  refine sX_readAll tX s06 (fun M σ1 gM f1 hWM hD => i_one ?_) (fun c s σ1 gE f1 e2 e3 => i_zer' ?_)
  · have f1' : ∀ z, z ≠ 1 → z < 14 ∨ 23 < z → (x_up σ1 1 1 0) z = σ z := fun z a c => by rw [x_up_n a, f1.1 z a c]; exact s0z z a
    refine sX_copyNet hWM (hD.cong (fun z a c => x_up_n (by omega))) (fun σ2 f2 hF2 => ?_)
    refine sX_prepare hWM hF2 (fun σ3 τ3 f3 hR3 hw3 => ?_)
    refine sX_beginPlan hWM (hF2.cong (fun z hz => f3 z (by omega))) hR3 hw3 (g_W_E hWM) (fun σ4 w4 f4 hC4 hA4 => ?_)
    refine sX_forget (fun σ5 f5 a5 b5 c5 => ?_)
    have z5 : ∀ z, z ≠ 1 → z ≠ 63 → z ≠ 83 → z < 3 ∨ (23 < z ∧ z < 28) ∨ (31 < z ∧ z < 33) ∨ 45 < z → σ5 z = σ z := fun z a c d e => by
      rw [f5 z c d, f4 z (by omega), f3 z (by omega), f2 z (by omega)]
      exact f1' z a (by omega)
    have y63 : ∀ i, i ≠ 2 → σ5 63 i = σ 63 i := fun i hi => by
      rw [b5 i hi, f4 63 (by omega), f3 63 (by omega), f2 63 (by omega), f1' 63 (by omega) (by omega)]
    have y1 : ∀ i, i ≠ 1 → i < 4 → σ5 1 i = s0 1 i := fun i hi hi4 => by
      rw [f5 1 (by omega) (by omega), f4 1 (by omega), f3 1 (by omega), f2 1 (by omega), x_up_sn hi]
      exact f1.2 i (by omega)
    have y11 : σ5 1 1 = nI 0 := by
      rw [f5 1 (by omega) (by omega), f4 1 (by omega), f3 1 (by omega), f2 1 (by omega), x_up_ss]
      rfl
    have hF5 : f_F M σ5 := hF2.cong (fun z hz => by rw [f5 z (by omega) (by omega), f4 z (by omega)]; exact f3 z (by omega))
    rw [hF5.1.2]
    refine ref _ (fun M' ρ' θ' v g1 y2 y3 g2 g3 g4 => ?_) (fun c s ρ' θ' g1 => by rw [gM] at g1; injection g1)
    rw [gM] at g1
    injection g1 with g1
    subst g1
    refine sM_loadTail g2 g3 g4 (fun ρ2 k1 k2 k3 k4 k5 k6 hF hC => ⟨rfl, M, g_C0 M, w4, ⟨hWM, g_C0_WC hWM, hF5, ?_, ?_, ?_, ?_⟩, ⟨hWM, g_C0_WC hWM, hF, hC⟩, ⟨P, 0, l, kf, ⟨by omega, b2, b3⟩, ⟨?_, a5, ?_, k3⟩, fun k hk => absurd hk (Nat.not_lt_zero _)⟩, fun i hi => Or.inl ⟨c5 i hi, ?_⟩, ⟨0, by omega, y11, k4, fun i hi => absurd hi (Nat.not_lt_zero _), ?_, ?_⟩, nO, hO1, ?_, ?_, fun i hi => ?_⟩)
    · exact hR3.cong (fun z hz => by rw [f5 z (by omega) (by omega)]; exact f4 z (by omega))
    · exact hC4.cong (fun z hz => f5 z (by omega) (by omega))
    · exact hA4.cong (fun z a c => f5 z (by omega) (by omega)) (by rw [f5 33 (by omega) (by omega)])
    · exact ⟨g_W M, g_W_E hWM, fun i hi => by rw [f5 28 (by omega) (by omega), f4 28 (by omega)]; exact hw3 i hi⟩
    · rw [y63 1 (by omega)]
      exact hl
    · rw [k2 2 (by omega) (by omega), y3 2 (by omega), r0i 2 (by omega) (by omega) (by omega) (by omega)]
      exact hf
    · rcases (show i = 0 ∨ i = 1 by omega) with e | e
      · rw [e]
        exact k5
      · rw [e]
        exact k6
    · rw [y1 2 (by omega) (by omega), k2 33 (by omega) (by omega), y3 33 (by omega), s02, r033]
    · rw [y1 3 (by omega) (by omega), k2 34 (by omega) (by omega), y3 34 (by omega), s03, r034]
    · rw [z5 84 (by omega) (by omega) (by omega) (by omega)]
      exact hO2.1
    · rw [k2 29 (by omega) (by omega), y3 29 (by omega), r0i 29 (by omega) (by omega) (by omega) (by omega)]
      exact hO2.2.1
    · rw [z5 85 (by omega) (by omega) (by omega) (by omega), k1 20 (by omega), y2 20 (by omega) (by omega)]
      exact hO2.2.2 i hi
  · refine ref _ (fun M' ρ' θ' v g1 => by rw [gE] at g1; injection g1) (fun c' s' ρ' θ' g1 y2 y3 y4 y5 y6 => ?_)
    rw [gE] at g1
    injection g1 with g1
    injection g1 with g1 g2
    subst g1
    subst g2
    unfold wX11_load_48
    refine i_zer' ⟨rfl, hR.ld (fun z a c => ?_) (fun z a c => ?_) (fun i hi => ?_) (fun i hi => ?_) ⟨0, by omega, x_up_ss _ _ _ _, x_up_ss _ _ _ _, fun i hi => absurd hi (Nat.not_lt_zero _), ?_, ?_⟩⟩
    · rw [x_up_n a, f1.1 z a c]
      exact s0z z a
    · rw [x_up_n a]
      exact y2 z a c
    · rw [x_up_n (show (3 : Nat) ≠ 0 by omega)]
      exact y3 i hi
    · rw [x_up_sn (by omega), y4 i (by omega)]
      exact r0i i (by omega) (by omega) (by omega) (by omega)
    · rw [x_up_sn (by omega), x_up_sn (by omega), e2, y5]
    · rw [x_up_sn (by omega), x_up_sn (by omega), e3, y6]
