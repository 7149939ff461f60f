/-! merge, the best partner: kept by both -/
section M2
variable {N C : g_F} {w : Nat → Nat} {P : Nat → g_F} {n l f : Nat} {σ ρ : x_S} {τ θ : x_L}
/-- another plan's choices and row are taken over, and arranged -/
theorem sX_take {C' : g_F} (hX : g_X N C w σ τ) (hW' : g_WC N C') (hC : f_C N C' 46 σ) (hw : f_W 46 (g_bg N (N 0 0)) w σ) {Q : x_S → x_L → Prop} (h : ∀ (σ' : x_S) (w' : Nat → Nat), g_X N C' w' σ' τ → (∀ z, z < 33 ∨ 45 < z → σ' z = σ z) → Q σ' τ) : wX6_copyChoices 33 46 σ τ (fun σ2 τ2 => wX6_arrange 33 σ2 τ2 Q) := by
  obtain ⟨hN, -, hF, hR, -, hA, hB⟩ := hX
  refine sX_copyT hN (Or.inr ⟨rfl, rfl⟩) hC hw (fun σ2 f2 hC2 hw2 => ?_)
  have hF2 := hF.ed (σ' := σ2) (fun z a c => f2 z (by omega) (by omega) (by omega) (by omega))
  have hR2 := hR.cong (σ' := σ2) (fun z hz => f2 z (by omega) (by omega) (by omega) (by omega))
  refine sX_arrange (by omega) hN hW' hF2 hC2 hR2 hw2 hA.2.2.1 (fun σ3 w3 f3 g3 hA3 => ?_)
  refine h σ3 w3 ⟨hN, hW', hF2.ed (fun z a c => f3 z (by omega) (by omega)), hR2.cong (fun z hz => f3 z (by omega) (by omega)), hC2.cong (fun z hz => f3 z (by omega) (by omega)), hA3, hB.cong (by rw [f3 28 (by omega) (by omega), f2 28 (by omega) (by omega) (by omega) (by omega)])⟩ (fun z hz => ?_)
  rw [f3 z (by omega) (by omega), f2 z (by omega) (by omega) (by omega) (by omega)]
theorem g_Hi.tr {σ' : x_S} (h : g_Hi N P n l f σ ρ) (fx : x_tr σ σ') : g_Hi N P n l f σ' ρ := h.fr (fun z a b => fx z (by omega)) rfl rfl rfl
theorem sX_mergeTwo (hX : g_X N C w σ τ) (hH : g_Hi N P n l f σ ρ) {t o : Nat} (ht : t < N 0 1) (ho : o < N 0 1) {Q : Int32 → x_S → x_L → Prop} (h1 : g_rsn N C t o = 0 → ∀ (σ1 σ' : x_S) (w' : Nat → Nat), x_tr σ σ1 → x_E N C (g_mrg N C t o) l n w' σ1 τ σ' → Q (nI (g_rlen N t o)) σ' τ) (h0 : ¬ g_rsn N C t o = 0 → ∀ σ' : x_S, x_tr σ σ' → Q (-3) σ' τ) : wX10_mergeTwo (nI t) (nI o) σ τ Q := by
  have rb := g_rsn_b N C t o
  obtain ⟨⟨b1, b2, b3⟩, -⟩ := id hH
  have hm1 : (l + 1) % 15 < 15 := Nat.mod_lt _ (by omega)
  unfold wX10_mergeTwo
  refine sX_attempt hX ht ho (fun σ1 fx hp => i_eq (b := 0) (by omega) (by omega) (fun g => ?_) (fun g => h0 g σ1 fx))
  obtain ⟨p1, p2, p3, p4⟩ := hp g
  have hX1 := hX.tr fx
  refine sX_keepE hX1 (hH.tr fx) (fun σ2 hk hC2 => ?_)
  have k2 : ∀ z, z ≠ 63 → z ≠ 65 + (l + 1) % 15 → σ2 z = σ1 z := hk.1
  have hX2 : g_X N C w σ2 τ := by
    obtain ⟨y1, y2, y3, y4, y5, y6, y7⟩ := hX1
    exact ⟨y1, y2, y3.ed (fun z a c => k2 z (by omega) (by omega)), y4.cong (fun z hz => k2 z (by omega) (by omega)), hC2, y6.cong (fun z a c => k2 z (by omega) (by omega)) (by rw [k2 33 (by omega) (by omega)]), y7.cong (k2 28 (by omega) (by omega))⟩
  refine sX_take hX2 p4 (p1.cong (fun z hz => k2 z (by omega) (by omega))) (fun i hi => by rw [k2 _ (by omega) (by omega)]; exact p2 i hi) (fun σ' w' hX' f' => ?_)
  rw [f' 59 (by omega), k2 59 (by omega) (by omega), p3]
  exact h1 g σ1 σ' w' fx ⟨σ2, hk, hX', fun z hz => by rw [f' z (by omega), k2 z (by omega) (by omega)], fun z hz => f' z (by omega), fun z a b => by rw [f' z (by omega), k2 z (by omega) (by omega)]⟩
theorem sM_mergeNow (hM : g_M N C ρ) (hH : g_Hi N P n l f σ ρ) {t o : Nat} (ht : t < N 0 1) (ho : o < N 0 1) {Q : Int32 → x_S → x_L → Prop} (h1 : g_rsn N C t o = 0 → ∀ ρ1 ρ' : x_S, m_f2 ρ ρ1 → m_E N (g_mrg N C t o) n f ρ1 ρ' → Q (nI (g_rlen N t o)) ρ' θ) (h0 : ¬ g_rsn N C t o = 0 → ∀ ρ' : x_S, m_f2 ρ ρ' → Q (-3) ρ' θ) : wX11_mergeNow (nI t) (nI o) ρ θ Q := by
  obtain ⟨hN, hW, hF, hC⟩ := id hM
  have rb := g_rsn_b N C t o
  have hm : (f + n) % 15 < 15 := Nat.mod_lt _ (by omega)
  unfold wX11_mergeNow
  refine sM_lay hN hW hF hC (fun ρ1 f1 hL => ?_)
  have hM1 := hM.f2 (m_f2.lay f1)
  refine sM_reasonNow hN hW hM1.2.2.1 hM1.2.2.2 hL.1 ht ho (fun ρ2 la hT2 hp2 => ?_)
  have f2 : m_f2 ρ ρ2 := (m_f2.lay f1).tr (m_f2.la la)
  refine i_le (b := 0) (by omega) (by omega) (fun g => ?_) (fun g => h0 (by omega) ρ2 f2)
  obtain ⟨n1, n2, n3, n4⟩ := hp2 (by omega)
  have hM2 := hM.f2 f2
  have hH2 := hH.f2 hN (fun _ _ _ => rfl) f2
  refine sM_keepE hM2 hH2 (fun ρ3 hk hF3 hC3 => ?_)
  have hT3 : m_T N C ρ3 := hT2.cong (hk.1.1 4 (by omega) (by omega)) (hk.1.1 5 (by omega) (by omega))
  have r1 : ρ3 0 19 = nI (g_rp1 N t o) := by rw [hk.1.2.1 19 (by omega) (by omega)]; exact n3.1
  have r2 : ρ3 0 20 = nI (g_rp2 N t o) := by rw [hk.1.2.1 20 (by omega) (by omega)]; exact n3.2.1
  have r3 : ρ3 0 21 = nI (g_rlen N t o) := by rw [hk.1.2.1 21 (by omega) (by omega)]; exact n3.2.2
  refine sM_joinRun hN hW hF3 hC3 hT3 ht ho n1 n2 r1 r2 r3 (fun ρ4 f4 g4 hC4 => ?_)
  rw [f4 0 (by omega), r3]
  exact h1 (by omega) ρ2 ρ4 f2 ⟨ρ3, hk, ⟨fun i a _ => g4 i a, fun z hz => f4 z (by omega), fun i _ => by rw [f4 0 (by omega)]⟩, hC4⟩
end M2
theorem z_24 : z_p24 g_R := by
  intro σ τ ρ θ hR a b
  obtain ⟨N, C, w, hX, hM, hV⟩ := id hR
  obtain ⟨hN, hW, hF, hR0, hC, hA, hB⟩ := id hX
  obtain ⟨P, n, l, f, hH⟩ := id hV.1
  unfold wL_merge wX10_merge
  refine sX_chkTwo hN hF (fun c c2 => ?_) (fun c => ⟨rfl, ?_⟩)
  · obtain ⟨t, ht, rfl⟩ := id c
    obtain ⟨o, ho, rfl⟩ := id c2
    refine sX_mergeTwo hX hH ht ho (fun g σ1 σ' w' fx hE => ?_) (fun g σ' fx => ?_)
    · unfold wX11_merge wX11_merge_24
      refine sM_notTwo hM (fun _ _ ρ1 f1 h5 hM1 hL => i_zer ?_) (fun g => absurd ⟨c, c2⟩ g)
      have hH1 := hH.fr (fun _ _ _ => rfl) (f1.1 1 (by omega)) (f1.2 2 (by omega)) (f1.2 3 (by omega))
      refine sM_mergeNow hM1 hH1 ht ho (fun _ ρ2 ρ3 f2 hm => ?_) (fun y => absurd g y)
      have hV1 := (hV.fr fx.fq f1).f2 hN (x_fq.rf _) f2
      have E := g_R.edit (θ' := θ) (hX.tr fx) (hM1.f2 f2) hV1 ((hH1.tr fx).f2 hN (fun _ _ _ => rfl) f2) hE hm
      exact q_ok E.1 (by rw [E.2.1, f2.2.2 5 (by omega)]; exact h5)
    · unfold wX11_merge wX11_merge_24
      refine sM_notTwo hM (fun _ _ ρ1 f1 h5 hM1 hL => i_zer ?_) (fun g => absurd ⟨c, c2⟩ g)
      have hH1 := hH.fr (fun _ _ _ => rfl) (f1.1 1 (by omega)) (f1.2 2 (by omega)) (f1.2 3 (by omega))
      refine sM_mergeNow hM1 hH1 ht ho (fun y => absurd y g) (fun _ ρ2 f2 => ?_)
      exact q_ok ((hR.fr (θ' := θ) fx.fq rfl f1).f2 (x_fq.rf _) rfl f2) (by rw [f2.2.2 5 (by omega)]; exact h5)
  · unfold wX11_merge wX11_merge_24
    exact sM_notTwo hM (fun c1 c2 => absurd ⟨c1, c2⟩ c) (fun _ ρ' f h5 => i_one' (q_no (hR.fr (x_fq.rf _) rfl f) h5 (by decide)))
/-- the better of two: (which, the fuel behind merging) -/
def g_bp (N C : g_F) (t : Nat) : Nat → Int32 × Nat
  | 0 => (-1, g_fu N C)
  | o + 1 => if g_rsn N C t o = 0 ∧ g_fu N (g_mrg N C t o) < (g_bp N C t o).2 then (nI o, g_fu N (g_mrg N C t o)) else g_bp N C t o
theorem g_bp_b (N C : g_F) (t : Nat) : ∀ o, (g_bp N C t o).2 ≤ g_fu N C
  | 0 => Nat.le_refl _
  | o + 1 => by
    have := g_bp_b N C t o
    rw [g_bp]
    split
    · rename_i h
      have := h.2
      show g_fu N (g_mrg N C t o) ≤ g_fu N C
      omega
    · exact this
theorem e_gain {F a b : Nat} (hF : F < 100000000) (ha : a ≤ F) (hb : b < 100000000) : (nI (F - a) < (nI F - nI b : Int32)) ↔ b < a := by
  rw [Int32.lt_iff_toInt_lt, nI_toInt (by omega), Int32.toInt_sub, nI_toInt (by omega), nI_toInt (by omega), Int.bmod_eq_of_le (by omega) (by omega)]
  omega
theorem z_26 : z_p26 g_R := by
  intro σ τ ρ θ hR a
  obtain ⟨N, C, w, hX, hM, hV⟩ := id hR
  obtain ⟨hN, hW, hF, hR0, hC, hA, hB⟩ := id hX
  have hb := hN.1.2
  have hM0 := hM.fr (m_fr.up0 (v := 0) (Or.inl rfl))
  have fub := g_fu_b hN hW
  unfold wL_bestPartner wX10_bestPartner
  refine sX_chkTruck hN hF (fun c => ?_) (fun c => ⟨rfl, ?_⟩)
  · obtain ⟨t, ht, rfl⟩ := id c
    rw [show σ 33 14 = nI (g_fu N C) from hA.2.2.2.2.2]
    refine x_S4 (fun i σ' τ' => τ = τ' ∧ x_tr σ σ') (fun _ => nI t) (fun i => (g_bp N C t i).1) (fun i => nI (g_bp N C t i).2) (fun i => nI i) (lo := 0) (n := N 0 1) (Nat.zero_le _) ?_ ?_ ⟨rfl, fun _ _ => rfl⟩ rfl rfl rfl rfl
    · rintro K i σ1 τ' - hi ⟨rfl, fx⟩ hK
      have hX1 := hX.tr fx
      have rb := g_rsn_b N C t i
      have bb := g_bp_b N C t i
      unfold wX10_bestPartner_18 wX10_bestPartner_72
      rw [hX1.2.2.1.1.2, show (nI i + 1 : Int32) = nI (i + 1) from nI_add i 1]
      refine i_le (by omega) (by omega) (fun g => absurd g (by omega)) (fun _ => sX_attempt hX1 ht hi (fun σ2 f2 hp => i_ne (b := 0) (by omega) (by omega) (fun g => ?_) (fun g => ?_)))
      · have := hK σ2 τ ⟨rfl, fx.tr f2⟩
        rw [g_bp, if_neg (fun y => g y.1)] at this
        exact this
      · obtain ⟨p1, p2, p3, p4⟩ := hp g
        have fb2 := g_fu_b hN p4
        refine sX_trialFuel (hX1.tr f2) p4 p1 p2 (fun σ3 f3 e => ?_)
        have := hK σ3 τ ⟨rfl, (fx.tr f2).tr f3⟩
        rw [e]
        refine i_le (by omega) (by omega) (fun g2 => ?_) (fun g2 => ?_)
        · rw [g_bp, if_neg (fun y => by have := y.2; omega)] at this
          exact this
        · rw [g_bp, if_pos ⟨g, g2⟩] at this
          exact this
    · rintro K σ1 τ' ⟨rfl, fx⟩
      have hX1 := hX.tr fx
      unfold wX10_bestPartner_18
      rw [hX1.2.2.1.1.2]
      refine i_le (by omega) (by omega) (fun _ => ?_) (fun g => absurd g (by omega))
      unfold wX11_bestPartner wX11_bestPartner_19
      refine sM_isTruck hN hM0.2.2.1 (fun _ => i_one (sM_thr0 (i_zer ?_))) (fun g => absurd c g)
      refine sM_begin hM (fun ρ1 f1 h5 hM1 hL => ?_)
      refine sM_sumAll hN hW hM1.2.2.1 hM1.2.2.2 (fun s hs => hL.2.2.2.2 s hs) (k := 0) (by omega) ?_
      rw [g_what_0]
      refine x_S5 (fun i ρ' θ' => θ = θ' ∧ m_f2 ρ1 ρ' ∧ m_T N C ρ') (fun _ => nI t) (fun _ => nI (g_fu N C)) (fun i => (g_bp N C t i).1) (fun i => nI (g_fu N C - (g_bp N C t i).2)) (fun i => nI i) (lo := 0) (n := N 0 1) (Nat.zero_le _) ?_ ?_ ⟨rfl, m_f2.rf _, hL.1⟩ rfl rfl rfl (by rw [show (g_bp N C t 0).2 = g_fu N C from rfl, Nat.sub_self]; rfl) rfl
      · rintro K i ρ2 θ' - hi ⟨rfl, f2, hT2⟩ hK
        have rb := g_rsn_b N C t i
        have bb := g_bp_b N C t i
        have hM2 := hM1.f2 f2
        unfold wX11_bestPartner_46 wX11_bestPartner_79 wX11_bestPartner_98
        rw [e_c1, hM2.2.2.1.1.2, show (nI i + 1 : Int32) = nI (i + 1) from nI_add i 1]
        refine i_le (by omega) (by omega) (fun g => absurd g (by omega)) (fun _ => sM_reasonNow hN hW hM2.2.2.1 hM2.2.2.2 hT2 ht hi (fun ρ3 la hT3 hp => i_le (b := 0) (by omega) (by omega) (fun g => ?_) (fun g => ?_)))
        · obtain ⟨n1, n2, n3, n4⟩ := hp (by omega)
          have fb2 := g_fu_b hN n4
          have hM3 := hM2.f2 (m_f2.la la)
          refine sM_gainNow hN hW hM3.2.2.1 hM3.2.2.2 hT3 ht hi n1 n2 n4 n3 (fun ρ4 f4 hT4 => ?_)
          have := hK ρ4 θ ⟨rfl, (f2.tr (m_f2.la la)).tr f4, hT4⟩
          have eg := e_gain (F := g_fu N C) (a := (g_bp N C t i).2) (b := g_fu N (g_mrg N C t i)) (by omega) bb (by omega)
          refine ⟨fun g2 => ?_, fun g2 => ?_⟩
          · have g3 := eg.mp g2
            rw [g_bp, if_pos ⟨by omega, g3⟩] at this
            rw [nI_sub (by omega)]
            exact this
          · rw [g_bp, if_neg (fun y => g2 (eg.mpr y.2))] at this
            exact this
        · have := hK ρ3 θ ⟨rfl, f2.tr (m_f2.la la), hT3⟩
          rw [g_bp, if_neg (fun y => by have := y.1; omega)] at this
          exact i_lt (b := 0) (by omega) (by omega) (fun g2 => absurd g2 (by omega)) (fun _ => this)
      · rintro K ρ2 θ' ⟨rfl, f2, hT2⟩
        have hM2 := hM1.f2 f2
        unfold wX11_bestPartner_46
        rw [e_c1, hM2.2.2.1.1.2]
        refine i_le (by omega) (by omega) (fun _ => ?_) (fun g => absurd g (by omega))
        exact q_ok ((hR.fr (θ' := θ) fx.fq rfl f1).f2 (x_fq.rf _) rfl f2) (by rw [f2.2.2 5 (by omega)]; exact h5)
  · unfold wX11_bestPartner wX11_bestPartner_19
    refine sM_isTruck hN hM0.2.2.1 (fun g => absurd g c) (fun _ => i_zer' (sM_thr1 (i_one' ?_)))
    exact q_no (hR.fr (x_fq.rf _) rfl ((m_fr.up0 (Or.inl rfl)).up5 1)) (x_up_ss _ _ _ _) (by decide)
