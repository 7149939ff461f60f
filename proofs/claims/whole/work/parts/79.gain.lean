/-! reason, merge, gain: kept by both -/
/-- the plans but the one put aside stay -/
def m_f2 (ρ ρ' : x_S) : Prop := (∀ i, i < 4536 → ρ' 1 i = ρ 1 i) ∧ (∀ z, z = 2 ∨ z = 3 ∨ z = 20 ∨ z = 21 ∨ z = 22 → ρ' z = ρ z) ∧ ∀ i, i = 2 ∨ i = 3 ∨ i = 5 ∨ i = 29 ∨ i = 31 ∨ i = 33 ∨ i = 34 ∨ i = 40 → ρ' 0 i = ρ 0 i
theorem m_f2.rf (ρ : x_S) : m_f2 ρ ρ := ⟨fun _ _ => rfl, fun _ _ => rfl, fun _ _ => rfl⟩
theorem m_f2.tr {ρ ρ1 ρ2 : x_S} (h1 : m_f2 ρ ρ1) (h2 : m_f2 ρ1 ρ2) : m_f2 ρ ρ2 := ⟨fun i a => (h2.1 i a).trans (h1.1 i a), fun z hz => (h2.2.1 z hz).trans (h1.2.1 z hz), fun i hi => (h2.2.2 i hi).trans (h1.2.2 i hi)⟩
theorem m_f2.fp {ρ ρ' : x_S} (h : m_f2 ρ ρ') : m_fp ρ ρ' := ⟨fun i _ b => h.1 i b, h.2⟩
theorem m_f2.la {ρ ρ' : x_S} (h : m_la ρ ρ') : m_f2 ρ ρ' := ⟨h.2.2, fun z hz => h.1 z (by omega) (by omega) (by omega) (by omega), fun i hi => h.2.1 i (by omega) (by omega) (by omega)⟩
theorem m_f2.lay {ρ ρ' : x_S} (h : ∀ z, z < 4 ∨ 14 < z → ρ' z = ρ z) : m_f2 ρ ρ' := ⟨fun i _ => by rw [h 1 (by omega)], fun z hz => h z (by omega), fun i _ => by rw [h 0 (by omega)]⟩
section F2
variable {N C : g_F} {w : Nat → Nat} {σ σ' ρ ρ' : x_S} {τ τ' θ θ' : x_L}
theorem m_f2.F (h : m_f2 ρ ρ') (hF : m_F N ρ) : m_F N ρ' := hF.cong (h.2.1 3 (by omega))
theorem m_f2.Cc {c : Nat} (h : m_f2 ρ ρ') (hN : g_WN N) (hc : c < 18) (hC : m_C N C (252 * c) ρ) : m_C N C (252 * c) ρ' := hC.st2 hN (fun i _ b => h.1 i (by omega))
theorem m_f2.C0 (h : m_f2 ρ ρ') (hN : g_WN N) (hC : m_C N C 0 ρ) : m_C N C 0 ρ' := h.Cc (c := 0) hN (by omega) hC
theorem g_M.f2 (hM : g_M N C ρ) (h : m_f2 ρ ρ') : g_M N C ρ' := ⟨hM.1, hM.2.1, h.F hM.2.2.1, h.C0 hM.1 hM.2.2.2⟩
theorem g_Hi.f2 {P : Nat → g_F} {n l f : Nat} (hN : g_WN N) (h : g_Hi N P n l f σ ρ) (e : ∀ z, 63 ≤ z → z ≤ 79 → σ' z = σ z) (g : m_f2 ρ ρ') : g_Hi N P n l f σ' ρ' := by
  obtain ⟨h1, h2, h3⟩ := h
  exact ⟨h1, ⟨by rw [e 63 (by omega) (by omega)]; exact h2.1, by rw [e 63 (by omega) (by omega)]; exact h2.2.1, by rw [g.2.2 2 (by omega)]; exact h2.2.2.1, by rw [g.2.2 3 (by omega)]; exact h2.2.2.2⟩, fun k hk => ⟨(h3 k hk).1, (h3 k hk).2.1.cong (e _ (by omega) (by omega)), g.Cc hN (by omega) (h3 k hk).2.2⟩⟩
theorem g_V.f2 (hN : g_WN N) (h : g_V N σ ρ) (f : x_fq σ σ') (g : m_f2 ρ ρ') : g_V N σ' ρ' := by
  obtain ⟨⟨P, n, l, k, h1⟩, h2, h3, h4⟩ := h
  refine ⟨⟨P, n, l, k, h1.f2 hN (fun z a c => f.1 z (by omega)) g⟩, fun i hi => ?_, ?_, ?_⟩
  · rw [f.1 83 (by omega), g.2.1 2 (by omega)]
    rcases h2 i hi with q | ⟨g1, g2, S, g3, g4, g5⟩
    · exact Or.inl q
    · exact Or.inr ⟨g1, g2, S, g3, g4.cong (f.1 _ (by omega)), g.Cc hN (by omega) g5⟩
  · unfold g_Tx at h3 ⊢
    rw [f.1 2 (by omega), f.2 1 (by omega), f.2 2 (by omega), f.2 3 (by omega), g.2.1 21 (by omega), g.2.2 31 (by omega), g.2.2 33 (by omega), g.2.2 34 (by omega)]
    exact h3
  · unfold g_Ou at h4 ⊢
    rw [f.1 84 (by omega), f.1 85 (by omega), g.2.1 20 (by omega), g.2.2 29 (by omega)]
    exact h4
theorem g_R.f2 (h : g_R σ τ ρ θ) (f : x_fq σ σ') (e : τ' 32 = τ 32) (g : m_f2 ρ ρ') : g_R σ' τ' ρ' θ' := by
  obtain ⟨N, C, w, h1, h2, h3⟩ := h
  exact ⟨N, C, w, h1.fq f e, h2.f2 g, h3.f2 h2.1 f g⟩
theorem g_rsn_b (N C : g_F) (t o : Nat) : g_rsn N C t o ≤ 5 := by
  unfold g_rsn
  repeat' split
  all_goals omega
/-- the fuel of all -/
def g_fu (N C : g_F) : Nat := g_all N (g_fuel N C)
theorem g_fu_b (hN : g_WN N) (hW : g_WC N C) : g_fu N C ≤ 18396000 := g_all_b (b := 153300) (fun s hs => g_fuel_b hN hW hs)
theorem sM_gainNow (hN : g_WN N) (hW : g_WC N C) (hF : m_F N ρ) (hC : m_C N C 0 ρ) (hT : m_T N C ρ) {t o : Nat} (ht : t < N 0 1) (ho : o < N 0 1) (hne : t ≠ o) (z : g_rp1 N t o < N 8 t) (hWm : g_WC N (g_mrg N C t o)) (hr : m_rn N t o ρ) {v : Int32} {Q : Int32 → x_S → x_L → Prop}
    (h : ∀ ρ' : x_S, m_f2 ρ ρ' → m_T N C ρ' → Q (v - nI (g_fu N (g_mrg N C t o))) ρ' θ) : wX11_gainNow (nI t) (nI o) v ρ θ Q := by
  have hb := hN.1.2
  unfold wX11_gainNow
  refine sM_copyPlan (a := 0) (b := 18) (by omega) (by omega) (fun ρ1 c1 c2 => ?_)
  have hF1 := hF.cong (c1 3 (by omega))
  have hT1 := hT.cong (c1 4 (by omega)) (c1 5 (by omega))
  have hC1 : m_C N C 0 ρ1 := by
    have h0 : m_C N C (252 * 0) ρ := hC
    exact h0.st hN (cp_off c2) (by omega)
  refine sM_joinRun hN hW hF1 hC1 hT1 ht ho hne z (by rw [c1 0 (by omega)]; exact hr.1) (by rw [c1 0 (by omega)]; exact hr.2.1) (by rw [c1 0 (by omega)]; exact hr.2.2) (fun ρ2 f2 g2 hC2 => ?_)
  have hF2 := hF1.cong (f2 3 (by omega))
  refine sM_lay hN hWm hF2 hC2 (fun ρ3 f3 hL3 => ?_)
  have hF3 := hF2.cong (f3 3 (by omega))
  have hC3 := hC2.cong (f3 1 (by omega))
  refine sM_sumAll hN hWm hF3 hC3 (fun s hs => hL3.2.2.2.2 s hs) (k := 0) (by omega) ?_
  rw [g_what_0]
  refine sM_copyPlan (a := 18) (b := 0) (by omega) (by omega) (fun ρ5 c5 d5 => ?_)
  have p5 : ∀ i, i < 4536 → ρ5 1 i = ρ 1 i := fun i hi => by
    rw [d5]
    by_cases y : i < 252
    · rw [if_pos (by omega), f3 1 (by omega), g2 _ (by omega), c2, if_pos (by omega), show 252 * 0 + (252 * 18 + (i - 252 * 0) - 252 * 18) = i by omega]
    · rw [if_neg (by omega), f3 1 (by omega), g2 _ (by omega), c2, if_neg (by omega)]
  have q5 : ∀ y, y ≠ 1 → (y < 4 ∨ 14 < y) → ρ5 y = ρ y := fun y y1 y4 => by rw [c5 y y1, f3 y y4, f2 y y1, c1 y y1]
  have hF5 := hF.cong (q5 3 (by omega) (by omega))
  have hC5 : m_C N C 0 ρ5 := by
    have h0 : m_C N C (252 * 0) ρ := hC
    exact h0.st2 hN (fun i _ b => p5 i (by omega))
  refine x_S2 (fun i ρ' θ' => θ = θ' ∧ (∀ y, y ≠ 4 → y ≠ 5 → ρ' y = ρ5 y) ∧ ∀ s, g_is N s → s / 10 < i → ρ' 4 s = nI (g_en N C s) ∧ ρ' 5 s = nI (g_lv N C s)) (fun _ => v - nI (g_all N (g_fuel N (g_mrg N C t o)))) (fun i => nI i) (lo := 0) (n := N 0 1) (Nat.zero_le _) ?_ ?_ ⟨rfl, fun _ _ _ => rfl, fun s _ hs => absurd hs (Nat.not_lt_zero _)⟩ rfl rfl
  · rintro K i ρ6 θ' - hi ⟨rfl, f6, g6⟩ hK
    unfold wX11_gainNow_36
    have hF6 := hF5.cong (f6 3 (by omega) (by omega))
    have hC6 := hC5.cong (f6 1 (by omega) (by omega))
    rw [e_c1, hF6.1.2]
    refine i_le (by omega) (by omega) (fun g => absurd g (by omega)) (fun _ => sM_layTimes hN hW hF6 hC6 hi (fun ρ7 f7 t7 k7 => ?_))
    rw [show (nI i + 1 : Int32) = nI (i + 1) from nI_add i 1]
    refine hK _ _ ⟨rfl, fun y y4 y5 => by rw [f7 y y4 y5]; exact f6 y y4 y5, fun s hs hl => ?_⟩
    have hs2 := hs.2
    by_cases y1 : s / 10 = i
    · rw [y1] at hs2
      have := t7 (s % 10) hs2
      rw [show 10 * i + s % 10 = s by omega] at this
      exact this
    · rw [(k7 s y1).1, (k7 s y1).2]
      exact g6 s hs (by omega)
  · rintro K ρ6 θ' ⟨rfl, f6, g6⟩
    unfold wX11_gainNow_36
    have hF6 := hF5.cong (f6 3 (by omega) (by omega))
    rw [e_c1, hF6.1.2]
    refine i_le (by omega) (by omega) (fun _ => h ρ6 ⟨fun i hi => by rw [f6 1 (by omega) (by omega)]; exact p5 i hi, fun y hy => by rw [f6 y (by omega) (by omega)]; exact q5 y (by omega) (by omega), fun i _ => by rw [f6 0 (by omega) (by omega), q5 0 (by omega) (by omega)]⟩ (fun s hs => g6 s hs hs.1)) (fun g => absurd g (by omega))
/-- the class's fuel of the other plan, arranged -/
theorem sX_trialFuel (hX : g_X N C w σ τ) {C' : g_F} (hW' : g_WC N C') (hC : f_C N C' 46 σ) (hw : f_W 46 (g_bg N (N 0 0)) w σ) {Q : x_S → x_L → Prop} (h : ∀ σ' : x_S, x_tr σ σ' → σ' 46 14 = nI (g_fu N C') → Q σ' τ) : wX6_arrange 46 σ τ Q := by
  obtain ⟨hN, -, hF, hR, -, hA, -⟩ := hX
  exact sX_arrange (by omega) hN hW' hF hC hR hw hA.2.2.1 (fun σ' w' f1 f2 hA' => h σ' (fun z hz => f1 z (by omega) (by omega)) hA'.2.2.2.2.2)
end F2
theorem z_23 : z_p23 g_R := by
  intro σ τ ρ θ hR a b
  obtain ⟨N, C, w, hX, hM, hV⟩ := id hR
  obtain ⟨hN, hW, hF, hR0, hC, hA, hB⟩ := id hX
  unfold wL_reason wX10_reason
  refine sX_chkTwo hN hF (fun c c2 => ?_) (fun c => ⟨rfl, ?_⟩)
  · obtain ⟨t, ht, rfl⟩ := id c
    obtain ⟨o, ho, rfl⟩ := id c2
    refine sX_attempt hX ht ho (fun σ' fx _ => ?_)
    unfold wX11_reason wX11_reason_24
    refine sM_notTwo hM (fun _ _ ρ1 f h5 hM1 hL => i_zer ?_) (fun g => absurd ⟨c, c2⟩ g)
    refine sM_reasonNow hN hW hM1.2.2.1 hM1.2.2.2 hL.1 ht ho (fun ρ2 la _ _ => ?_)
    exact q_ok ((hR.fr (θ' := θ) fx.fq rfl f).f2 (x_fq.rf _) rfl (m_f2.la la)) (by rw [la.2.1 5 (by omega) (by omega) (by omega)]; exact h5)
  · unfold wX11_reason wX11_reason_24
    exact sM_notTwo hM (fun c1 c2 => absurd ⟨c1, c2⟩ c) (fun _ ρ' f h5 => i_one' (q_no (hR.fr (x_fq.rf _) rfl f) h5 (by decide)))
theorem z_25 : z_p25 g_R := by
  intro σ τ ρ θ hR a b
  obtain ⟨N, C, w, hX, hM, hV⟩ := id hR
  obtain ⟨hN, hW, hF, hR0, hC, hA, hB⟩ := id hX
  have bad : ¬ (g_rg a (N 0 1) ∧ g_rg b (N 0 1)) → wX11_gain a b ρ θ (fun b ρ1 θ1 => wX11_thrown ρ1 θ1 (fun th ρ2 θ2 => th = 1 ∧ ((1 : Int32) = 0 → τ 87 0 = b.toInt64) ∧ g_R σ τ ρ2 θ2)) := fun c => by
    unfold wX11_gain
    exact sM_notTwo hM (fun c1 c2 => absurd ⟨c1, c2⟩ c) (fun _ ρ' f h5 => i_one' (q_no (hR.fr (x_fq.rf _) rfl f) h5 (by decide)))
  unfold wL_gain wX10_gain
  refine sX_chkTwo hN hF (fun c c2 => ?_) (fun c => ?_)
  · obtain ⟨t, ht, rfl⟩ := id c
    obtain ⟨o, ho, rfl⟩ := id c2
    have rb := g_rsn_b N C t o
    refine sX_attempt hX ht ho (fun σ1 fx hp => ?_)
    have mm : ∀ (Q : Int32 → x_S → x_L → Prop), (g_rsn N C t o = 0 → ∀ ρ' : x_S, (∀ σ', x_fq σ σ' → g_R σ' τ ρ' θ) → ρ' 0 5 = 0 → Q (nI (g_fu N C) - nI (g_fu N (g_mrg N C t o))) ρ' θ) → (¬ g_rsn N C t o = 0 → ∀ ρ' : x_S, (∀ σ', x_fq σ σ' → g_R σ' τ ρ' θ) → ρ' 0 5 = 2 → Q 0 ρ' θ) → wX11_gain (nI t) (nI o) ρ θ Q := fun Q h1 h0 => by
      unfold wX11_gain wX11_gain_37 wX11_gain_55
      refine sM_notTwo hM (fun _ _ ρ1 f h5 hM1 hL => i_zer ?_) (fun g => absurd ⟨c, c2⟩ g)
      refine sM_sumAll hN hW hM1.2.2.1 hM1.2.2.2 (fun s hs => hL.2.2.2.2 s hs) (k := 0) (by omega) ?_
      rw [g_what_0]
      refine sM_reasonNow hN hW hM1.2.2.1 hM1.2.2.2 hL.1 ht ho (fun ρ2 la hT2 hp2 => ?_)
      have R2 : ∀ σ', x_fq σ σ' → g_R σ' τ ρ2 θ := fun σ' fq => (hR.fr (θ' := θ) fq rfl f).f2 (x_fq.rf _) rfl (m_f2.la la)
      have h52 : ρ2 0 5 = 0 := by rw [la.2.1 5 (by omega) (by omega) (by omega)]; exact h5
      refine i_le (b := 0) (by omega) (by omega) (fun g => sM_thr0 (i_zer ?_)) (fun g => sM_thr1 (i_one' (h0 (by omega) _ (fun σ' fq => (R2 σ' fq).fr (x_fq.rf _) rfl (m_fr.up0 (Or.inl rfl))) (x_up_ss _ _ _ _))))
      obtain ⟨n1, n2, n3, n4⟩ := hp2 (by omega)
      refine sM_gainNow hN hW ((m_f2.la la).F hM1.2.2.1) ((m_f2.la la).C0 hN hM1.2.2.2) hT2 ht ho n1 n2 n4 n3 (fun ρ3 f3 _ => ?_)
      exact h1 (by omega) ρ3 (fun σ' fq => (R2 σ' fq).f2 (x_fq.rf _) rfl f3) (by rw [f3.2.2 5 (by omega)]; exact h52)
    refine i_eq (b := 0) (by omega) (by omega) (fun g => ?_) (fun g => ?_)
    · obtain ⟨p1, p2, p3, p4⟩ := hp g
      refine sX_trialFuel (hX.tr fx) p4 p1 p2 (fun σ2 f2 e => ?_)
      have hA2 := ((hX.tr fx).tr f2).2.2.2.2.2.1
      rw [show σ2 33 14 = _ from hA2.2.2.2.2.2, e]
      exact mm _ (fun _ ρ' R' h5 => q_ok (R' _ (fx.tr f2).fq) h5) (fun y => absurd g y)
    · right
      refine ⟨rfl, ?_⟩
      exact mm _ (fun y => absurd y g) (fun _ ρ' R' h5 => q_no (R' _ fx.fq) h5 (by decide))
  · left
    exact ⟨rfl, bad c⟩
