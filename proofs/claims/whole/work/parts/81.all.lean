/-! merging of all: kept by both -/
def g_st (N C : g_F) (t o : Nat) (s : Int32 × Int32 × Nat) : Int32 × Int32 × Nat := if g_rsn N C t o = 0 ∧ g_fu N (g_mrg N C t o) < s.2.2 then (nI t, nI o, g_fu N (g_mrg N C t o)) else s
def g_fi (N C : g_F) (t : Nat) (s : Int32 × Int32 × Nat) : Nat → Int32 × Int32 × Nat
  | 0 => s
  | c + 1 => g_st N C t (t + 1 + c) (g_fi N C t s c)
def g_fo (N C : g_F) : Nat → Int32 × Int32 × Nat
  | 0 => (-1, -1, g_fu N C)
  | t + 1 => g_fi N C t (g_fo N C t) (N 0 1 - (t + 1))
/-- none yet, or two that can be merged and gain -/
def g_ok3 (N C : g_F) (s : Int32 × Int32 × Nat) : Prop := s = (-1, -1, g_fu N C) ∨ ∃ t o, t < N 0 1 ∧ o < N 0 1 ∧ g_rsn N C t o = 0 ∧ s = (nI t, nI o, g_fu N (g_mrg N C t o)) ∧ g_fu N (g_mrg N C t o) < g_fu N C
theorem g_ok3.le {N C : g_F} {s : Int32 × Int32 × Nat} (h : g_ok3 N C s) : s.2.2 ≤ g_fu N C := by
  rcases h with rfl | ⟨t, o, -, -, -, rfl, h⟩
  · exact Nat.le_refl _
  · exact Nat.le_of_lt h
theorem g_ok3.st {N C : g_F} {s : Int32 × Int32 × Nat} (h : g_ok3 N C s) {t o : Nat} (ht : t < N 0 1) (ho : o < N 0 1) : g_ok3 N C (g_st N C t o s) := by
  unfold g_st
  split
  · rename_i g
    have := h.le
    exact Or.inr ⟨t, o, ht, ho, g.1, rfl, by omega⟩
  · exact h
theorem g_ok3.fi {N C : g_F} {s : Int32 × Int32 × Nat} (h : g_ok3 N C s) {t : Nat} (ht : t < N 0 1) : ∀ c, t + 1 + c ≤ N 0 1 → g_ok3 N C (g_fi N C t s c)
  | 0, _ => h
  | c + 1, hc => by
    rw [g_fi]
    exact (h.fi ht c (by omega)).st ht (by omega)
theorem g_fo_ok (N C : g_F) : ∀ t, t ≤ N 0 1 → g_ok3 N C (g_fo N C t)
  | 0, _ => Or.inl rfl
  | t + 1, h => by
    rw [g_fo]
    exact (g_fo_ok N C t (by omega)).fi (by omega) _ (by omega)
def g_best (N C : g_F) : Int32 × Int32 × Nat := g_fo N C (N 0 1)
def g_fnd (N C : g_F) : Prop := ¬ (g_best N C).1 = -1
def g_nx (N C : g_F) : g_F := g_mrg N C (g_best N C).1.toNatClampNeg (g_best N C).2.1.toNatClampNeg
theorem g_fnd_of {N C : g_F} (hN : g_WN N) (h : g_fnd N C) : ∃ t o, t < N 0 1 ∧ o < N 0 1 ∧ g_rsn N C t o = 0 ∧ g_best N C = (nI t, nI o, g_fu N (g_mrg N C t o)) ∧ g_fu N (g_mrg N C t o) < g_fu N C ∧ g_nx N C = g_mrg N C t o := by
  have hb := hN.1.2
  rcases g_fo_ok N C (N 0 1) (Nat.le_refl _) with e | ⟨t, o, h1, h2, h3, e, h4⟩
  · unfold g_fnd g_best at h
    rw [e] at h
    exact absurd rfl h
  · refine ⟨t, o, h1, h2, h3, e, h4, ?_⟩
    unfold g_nx g_best
    rw [e]
    show g_mrg N C (nI t).toNatClampNeg (nI o).toNatClampNeg = _
    rw [i_cl (by omega), i_cl (by omega)]
theorem g_fnd_no {N C : g_F} (hN : g_WN N) (h : ¬ g_fnd N C) : g_best N C = (-1, -1, g_fu N C) := by
  have hb := hN.1.2
  rcases g_fo_ok N C (N 0 1) (Nat.le_refl _) with e | ⟨t, o, h1, h2, h3, e, h4⟩
  · exact e
  · refine absurd (fun y => ?_) h
    have e2 : (g_best N C).1 = nI t := by
      unfold g_best
      rw [e]
    rw [e2] at y
    exact nI_m1 (by omega) y
section MA
variable {N C : g_F} {w : Nat → Nat} {σ ρ : x_S} {τ θ : x_L}
def x_mb (σ σ' : x_S) : Prop := ∀ z, z < 33 ∨ 59 < z → σ' z = σ z
theorem sX_mergeBest (hX : g_X N C w σ τ) {Q : Int32 → x_S → x_L → Prop} (h1 : g_fnd N C → ∀ (σ' : x_S) (w' : Nat → Nat), x_mb σ σ' → g_X N (g_nx N C) w' σ' τ → Q 1 σ' τ) (h0 : ¬ g_fnd N C → ∀ σ' : x_S, x_tr σ σ' → Q 0 σ' τ) : wX10_mergeBestTwo σ τ Q := by
  obtain ⟨hN, hW, hF, hR0, hC, hA, hB⟩ := id hX
  have hb := hN.1.2
  have fub := g_fu_b hN hW
  unfold wX10_mergeBestTwo
  rw [show σ 33 14 = nI (g_fu N C) from hA.2.2.2.2.2]
  refine x_S4 (fun i σ' τ' => τ = τ' ∧ x_tr σ σ') (fun i => nI (g_fo N C i).2.2) (fun i => (g_fo N C i).1) (fun i => (g_fo N C i).2.1) (fun i => nI i) (lo := 0) (n := N 0 1) (Nat.zero_le _) ?_ ?_ ⟨rfl, fun _ _ => rfl⟩ rfl rfl rfl rfl
  · rintro K t σ1 τ' - ht ⟨rfl, fx⟩ hK
    have hX1 := hX.tr fx
    have hK : ∀ σ', x_tr σ σ' → K (nI (g_fi N C t (g_fo N C t) (N 0 1 - (t + 1))).2.2) (g_fi N C t (g_fo N C t) (N 0 1 - (t + 1))).1 (g_fi N C t (g_fo N C t) (N 0 1 - (t + 1))).2.1 (nI (t + 1)) σ' τ := fun σ' a => hK σ' τ ⟨rfl, a⟩
    unfold wX10_mergeBestTwo_15
    rw [hX1.2.2.1.1.2, show (nI t + 1 : Int32) = nI (t + 1) from nI_add t 1]
    refine i_le (by omega) (by omega) (fun g => absurd g (by omega)) (fun _ => ?_)
    refine x_S5 (fun o σ' τ' => τ = τ' ∧ x_tr σ σ') (fun o => nI (g_fi N C t (g_fo N C t) (o - (t + 1))).2.2) (fun o => (g_fi N C t (g_fo N C t) (o - (t + 1))).1) (fun o => (g_fi N C t (g_fo N C t) (o - (t + 1))).2.1) (fun _ => nI t) (fun o => nI o) (lo := t + 1) (n := N 0 1) ht ?_ ?_ ⟨rfl, fx⟩ (by rw [Nat.sub_self]; rfl) (by rw [Nat.sub_self]; rfl) (by rw [Nat.sub_self]; rfl) rfl rfl
    · rintro K2 o σ2 τ' ho1 ho ⟨rfl, fx2⟩ hK2
      have hX2 := hX.tr fx2
      have rb := g_rsn_b N C t o
      have bb := ((g_fo_ok N C t (by omega)).fi ht (o - (t + 1)) (by omega)).le
      have hK2 : ∀ σ', x_tr σ σ' → K2 (nI (g_st N C t o (g_fi N C t (g_fo N C t) (o - (t + 1)))).2.2) (g_st N C t o (g_fi N C t (g_fo N C t) (o - (t + 1)))).1 (g_st N C t o (g_fi N C t (g_fo N C t) (o - (t + 1)))).2.1 (nI t) (nI (o + 1)) σ' τ := fun σ' a => by
        have := hK2 σ' τ ⟨rfl, a⟩
        rw [show o + 1 - (t + 1) = (o - (t + 1)) + 1 by omega, g_fi, show t + 1 + (o - (t + 1)) = o by omega] at this
        exact this
      unfold wX10_mergeBestTwo_33 wX10_mergeBestTwo_91
      rw [hX2.2.2.1.1.2, show (nI o + 1 : Int32) = nI (o + 1) from nI_add o 1]
      refine i_le (by omega) (by omega) (fun g => absurd g (by omega)) (fun _ => sX_attempt hX2 ht ho (fun σ3 f3 hp => i_ne (b := 0) (by omega) (by omega) (fun g => ?_) (fun g => ?_)))
      · have := hK2 σ3 (fx2.tr f3)
        unfold g_st at this
        rw [if_neg (fun y => g y.1)] at this
        exact this
      · obtain ⟨p1, p2, p3, p4⟩ := hp g
        have fb2 := g_fu_b hN p4
        refine sX_trialFuel (hX2.tr f3) p4 p1 p2 (fun σ4 f4 e => ?_)
        have := hK2 σ4 ((fx2.tr f3).tr f4)
        unfold g_st at this
        rw [e]
        refine i_le (by omega) (by omega) (fun g2 => ?_) (fun g2 => ?_)
        · rw [if_neg (fun y => by have := y.2; omega)] at this
          exact this
        · rw [if_pos ⟨g, g2⟩] at this
          exact this
    · rintro K2 σ2 τ' ⟨rfl, fx2⟩
      have hX2 := hX.tr fx2
      unfold wX10_mergeBestTwo_33
      rw [hX2.2.2.1.1.2, show (nI t + 1 : Int32) = nI (t + 1) from nI_add t 1]
      exact i_le (by omega) (by omega) (fun _ => hK σ2 fx2) (fun g => absurd g (by omega))
  · rintro K σ1 τ' ⟨rfl, fx⟩
    have hX1 := hX.tr fx
    unfold wX10_mergeBestTwo_15 wX10_mergeBestTwo_120
    rw [hX1.2.2.1.1.2]
    refine i_le (by omega) (by omega) (fun _ => ?_) (fun g => absurd g (by omega))
    by_cases z : g_fnd N C
    · obtain ⟨t, o, ht, ho, hr, e, -, e2⟩ := g_fnd_of hN z
      have h1 := h1 z
      unfold g_best at e
      rw [e]
      refine i_m1 (by omega) (sX_attempt hX1 ht ho (fun σ2 f2 hp => ?_))
      rw [hr]
      obtain ⟨p1, p2, p3, p4⟩ := hp hr
      refine i_zer (sX_take (hX1.tr f2) p4 p1 p2 (fun σ3 w3 hX3 f3 => h1 σ3 w3 (fun y hy => ?_) (by rw [e2]; exact hX3)))
      rw [f3 y (by omega), f2 y (by omega), fx y (by omega)]
    · have e := g_fnd_no hN z
      unfold g_best at e
      rw [e]
      exact ⟨fun _ => h0 z σ1 fx, fun g => absurd rfl g⟩
theorem sM_mergedBest (hM : g_M N C ρ) {Q : Int32 → x_S → x_L → Prop} (h1 : g_fnd N C → ∀ ρ' : x_S, m_fp ρ ρ' → m_C N (g_nx N C) 0 ρ' → g_WC N (g_nx N C) → Q 1 ρ' θ) (h0 : ¬ g_fnd N C → ∀ ρ' : x_S, m_f2 ρ ρ' → Q 0 ρ' θ) : wX11_mergedBest ρ θ Q := by
  obtain ⟨hN, hW, hF, hC⟩ := id hM
  have hb := hN.1.2
  have fub := g_fu_b hN hW
  unfold wX11_mergedBest
  refine sM_lay hN hW hF hC (fun ρ1 f1 hL => ?_)
  have hM1 := hM.f2 (m_f2.lay f1)
  refine sM_sumAll hN hW hM1.2.2.1 hM1.2.2.2 (fun s hs => hL.2.2.2.2 s hs) (k := 0) (by omega) ?_
  rw [g_what_0]
  refine x_S5 (fun i ρ' θ' => θ = θ' ∧ m_f2 ρ1 ρ' ∧ m_T N C ρ') (fun _ => nI (g_fu N C)) (fun i => (g_fo N C i).1) (fun i => (g_fo N C i).2.1) (fun i => nI (g_fu N C - (g_fo N C i).2.2)) (fun i => nI i) (lo := 0) (n := N 0 1) (Nat.zero_le _) ?_ ?_ ⟨rfl, m_f2.rf _, hL.1⟩ rfl rfl rfl (by rw [show (g_fo N C 0).2.2 = g_fu N C from rfl, Nat.sub_self]; rfl) rfl
  · rintro K t ρ2 θ' - ht ⟨rfl, f2, hT2⟩ hK
    have hM2 := hM1.f2 f2
    have hK : ∀ ρ', m_f2 ρ1 ρ' → m_T N C ρ' → K (nI (g_fu N C)) (g_fi N C t (g_fo N C t) (N 0 1 - (t + 1))).1 (g_fi N C t (g_fo N C t) (N 0 1 - (t + 1))).2.1 (nI (g_fu N C - (g_fi N C t (g_fo N C t) (N 0 1 - (t + 1))).2.2)) (nI (t + 1)) ρ' θ := fun ρ' a b => hK ρ' θ ⟨rfl, a, b⟩
    unfold wX11_mergedBest_20
    rw [e_c1, hM2.2.2.1.1.2, show (nI t + 1 : Int32) = nI (t + 1) from nI_add t 1]
    refine i_le (by omega) (by omega) (fun g => absurd g (by omega)) (fun _ => ?_)
    refine x_S6 (fun o ρ' θ' => θ = θ' ∧ m_f2 ρ1 ρ' ∧ m_T N C ρ') (fun _ => nI (g_fu N C)) (fun o => (g_fi N C t (g_fo N C t) (o - (t + 1))).1) (fun o => (g_fi N C t (g_fo N C t) (o - (t + 1))).2.1) (fun o => nI (g_fu N C - (g_fi N C t (g_fo N C t) (o - (t + 1))).2.2)) (fun _ => nI t) (fun o => nI o) (lo := t + 1) (n := N 0 1) ht ?_ ?_ ⟨rfl, f2, hT2⟩ rfl (by rw [Nat.sub_self]; rfl) (by rw [Nat.sub_self]; rfl) (by rw [Nat.sub_self]; rfl) rfl rfl
    · rintro K2 o ρ3 θ' ho1 ho ⟨rfl, f3, hT3⟩ hK2
      have hM3 := hM1.f2 f3
      have rb := g_rsn_b N C t o
      have bb := ((g_fo_ok N C t (by omega)).fi ht (o - (t + 1)) (by omega)).le
      have hK2 : ∀ ρ', m_f2 ρ1 ρ' → m_T N C ρ' → K2 (nI (g_fu N C)) (g_st N C t o (g_fi N C t (g_fo N C t) (o - (t + 1)))).1 (g_st N C t o (g_fi N C t (g_fo N C t) (o - (t + 1)))).2.1 (nI (g_fu N C - (g_st N C t o (g_fi N C t (g_fo N C t) (o - (t + 1)))).2.2)) (nI t) (nI (o + 1)) ρ' θ := fun ρ' a b => by
        have := hK2 ρ' θ ⟨rfl, a, b⟩
        rw [show o + 1 - (t + 1) = (o - (t + 1)) + 1 by omega, g_fi, show t + 1 + (o - (t + 1)) = o by omega] at this
        exact this
      unfold wX11_mergedBest_37 wX11_mergedBest_72 wX11_mergedBest_94
      rw [e_c1, hM3.2.2.1.1.2, show (nI o + 1 : Int32) = nI (o + 1) from nI_add o 1]
      refine i_le (by omega) (by omega) (fun g => absurd g (by omega)) (fun _ => sM_reasonNow hN hW hM3.2.2.1 hM3.2.2.2 hT3 ht ho (fun ρ4 la hT4 hp => i_le (b := 0) (by omega) (by omega) (fun g => ?_) (fun g => ?_)))
      · obtain ⟨n1, n2, n3, n4⟩ := hp (by omega)
        have fb2 := g_fu_b hN n4
        have hM4 := hM3.f2 (m_f2.la la)
        refine sM_gainNow hN hW hM4.2.2.1 hM4.2.2.2 hT4 ht ho n1 n2 n4 n3 (fun ρ5 f5 hT5 => ?_)
        have := hK2 ρ5 ((f3.tr (m_f2.la la)).tr f5) hT5
        have eg := e_gain (F := g_fu N C) (a := (g_fi N C t (g_fo N C t) (o - (t + 1))).2.2) (b := g_fu N (g_mrg N C t o)) (by omega) bb (by omega)
        unfold g_st at this
        refine ⟨fun g2 => ?_, fun g2 => ?_⟩
        · have g3 := eg.mp g2
          rw [if_pos ⟨by omega, g3⟩] at this
          rw [nI_sub (by omega)]
          exact this
        · rw [if_neg (fun y => g2 (eg.mpr y.2))] at this
          exact this
      · have := hK2 ρ4 (f3.tr (m_f2.la la)) hT4
        unfold g_st at this
        rw [if_neg (fun y => by have := y.1; omega)] at this
        exact i_lt (b := 0) (by omega) (by omega) (fun g2 => absurd g2 (by omega)) (fun _ => this)
    · rintro K2 ρ3 θ' ⟨rfl, f3, hT3⟩
      have hM3 := hM1.f2 f3
      unfold wX11_mergedBest_37
      rw [e_c1, hM3.2.2.1.1.2, show (nI t + 1 : Int32) = nI (t + 1) from nI_add t 1]
      exact i_le (by omega) (by omega) (fun _ => hK ρ3 f3 hT3) (fun g => absurd g (by omega))
  · rintro K ρ2 θ' ⟨rfl, f2, hT2⟩
    have hM2 := hM1.f2 f2
    unfold wX11_mergedBest_20
    rw [e_c1, hM2.2.2.1.1.2]
    refine i_le (by omega) (by omega) (fun _ => ?_) (fun g => absurd g (by omega))
    have fa : m_f2 ρ ρ2 := (m_f2.lay f1).tr f2
    by_cases z : g_fnd N C
    · obtain ⟨t, o, ht, ho, hr, e, hlt, e2⟩ := g_fnd_of hN z
      have h1 := h1 z
      have e3 : (g_best N C).2.2 = g_fu N (g_mrg N C t o) := by rw [e]
      unfold g_best at e
      rw [e]
      refine i_ne (a := g_fu N C - g_fu N (g_mrg N C t o)) (b := 0) (by omega) (by omega) (fun _ => ?_) (fun g => absurd g (by omega))
      -- the two can be merged: the run is laid, and joined
      have hne : t ≠ o := fun y => by
        unfold g_rsn at hr
        rw [if_pos y] at hr
        cases hr
      have hz : g_rp1 N t o < N 8 t := Classical.byContradiction fun y => by
        unfold g_rsn at hr
        rw [if_neg hne, if_pos y] at hr
        cases hr
      have hq : g_q2 N C t o - g_q1 N C t o ≤ 120 ∧ g_q1 N C t o - g_q2 N C t o ≤ 120 := Classical.byContradiction fun y => by
        unfold g_rsn at hr
        rw [if_neg hne, if_neg (fun x => x hz), if_pos y] at hr
        cases hr
      have hWm := g_WC.mrg hN hW ht ho hz hne hq
      refine sM_layRun hN hM2.2.2.1 ht ho (fun _ ρ3 f3 r1 r2 r3 => ?_) (fun y => absurd hz y)
      have hF3 := hM2.2.2.1.cong (f3.1 3 (by omega))
      have hC3 := hM2.2.2.2.cong (f3.1 1 (by omega))
      have hT3 := hT2.cong (f3.1 4 (by omega)) (f3.1 5 (by omega))
      refine sM_joinRun hN hW hF3 hC3 hT3 ht ho hne hz r1 r2 r3 (fun ρ4 f4 g4 hC4 => ?_)
      rw [e2] at h1
      refine h1 ρ4 (fa.fp.tr ((m_f2.la (m_la.f1 f3)).fp.tr ⟨fun i a _ => g4 i a, fun y hy => f4 y (by omega), fun i _ => by rw [f4 0 (by omega)]⟩)) hC4 hWm
    · have e := g_fnd_no hN z
      unfold g_best at e
      rw [e]
      refine ⟨fun g => absurd ?_ g, fun _ => h0 z ρ2 fa⟩
      show nI (g_fu N C - g_fu N C) = 0
      rw [Nat.sub_self]
      rfl
/-- the choices behind i merges -/
def g_cs (N C : g_F) : Nat → g_F
  | 0 => C
  | i + 1 => g_nx N (g_cs N C i)
theorem sX_byGain {P : Nat → g_F} {n l f : Nat} (hX : g_X N C w σ τ) (hH : g_Hi N P n l f σ ρ) {Q : Int32 → x_S → x_L → Prop} (h : ∀ (r : Nat) (σ' : x_S) (w' : Nat → Nat), r ≤ 30 → (∀ j, j < r → g_fnd N (g_cs N C j)) → (r = 30 ∨ ¬ g_fnd N (g_cs N C r)) → x_E N C (g_cs N C r) l n w' σ τ σ' → Q (nI r) σ' τ) : wX10_mergeByGain σ τ Q := by
  obtain ⟨⟨b1, b2, b3⟩, -⟩ := id hH
  have hm1 : (l + 1) % 15 < 15 := Nat.mod_lt _ (by omega)
  unfold wX10_mergeByGain
  refine sX_keepE hX hH (fun σ2 hk hC2 => ?_)
  have k2 : ∀ z, z ≠ 63 → z ≠ 65 + (l + 1) % 15 → σ2 z = σ z := hk.1
  have hX2 : g_X N C w σ2 τ := by
    obtain ⟨y1, y2, y3, y4, y5, y6, y7⟩ := hX
    exact ⟨y1, y2, y3.ed (fun z a c => k2 z (by omega) (by omega)), y4.cong (fun z hz => k2 z (by omega) (by omega)), hC2, y6.cong (fun z a c => k2 z (by omega) (by omega)) (by rw [k2 33 (by omega) (by omega)]), y7.cong (k2 28 (by omega) (by omega))⟩
  have fin : ∀ (r : Nat) (σ' : x_S), r ≤ 30 → (∀ j, j < r → g_fnd N (g_cs N C j)) → (r = 30 ∨ ¬ g_fnd N (g_cs N C r)) → x_mb σ2 σ' → (∃ w', g_X N (g_cs N C r) w' σ' τ) → Q (nI r) σ' τ := fun r σ' a b c d ⟨w', e⟩ => h r σ' w' a b c ⟨σ2, hk, e, fun z hz => by rw [d z (by omega), k2 z (by omega) (by omega)], fun z hz => d z (by omega), fun z z1 z2 => by rw [d z (by omega), k2 z (by omega) (by omega)]⟩
  refine x_S1 (fun i σ' τ' => τ = τ' ∧ x_mb σ2 σ' ∧ (∀ j, j < i → g_fnd N (g_cs N C j)) ∧ ∃ w', g_X N (g_cs N C i) w' σ' τ) (fun i => nI i) (lo := 0) (n := 30) (Nat.zero_le _) ?_ ?_ ⟨rfl, fun _ _ => rfl, fun j hj => absurd hj (Nat.not_lt_zero _), w, hX2⟩ rfl
  · rintro K i σ3 τ' - hi ⟨rfl, f3, g3, w3, hX3⟩ hK
    unfold wX10_mergeByGain_13
    rw [show (nI i + 1 : Int32) = nI (i + 1) from nI_add i 1]
    refine i_le (a := 30) (by omega) (by omega) (fun g => absurd g (by omega)) (fun _ => sX_mergeBest hX3 (fun z σ4 w4 f4 hX4 => i_one (hK σ4 τ ⟨rfl, fun y hy => by rw [f4 y hy]; exact f3 y hy, fun j hj => ?_, w4, hX4⟩)) (fun z σ4 f4 => i_zer' (fin i σ4 (by omega) g3 (Or.inr z) (fun y hy => by rw [f4 y (by omega)]; exact f3 y hy) ⟨w3, hX3.tr f4⟩)))
    by_cases y : j = i
    · rw [y]
      exact z
    · exact g3 j (by omega)
  · rintro K σ3 τ' ⟨rfl, f3, g3, w3, hX3⟩
    unfold wX10_mergeByGain_13
    exact i_le (a := 30) (b := 30) (by omega) (by omega) (fun _ => fin 30 σ3 (by omega) g3 (Or.inl rfl) f3 ⟨w3, hX3⟩) (fun g => absurd g (by omega))
theorem sM_allNow {P : Nat → g_F} {n l f : Nat} (hM : g_M N C ρ) (hH : g_Hi N P n l f σ ρ) {r : Nat} (hr : r ≤ 30) (g : ∀ j, j < r → g_fnd N (g_cs N C j)) (ge : r = 30 ∨ ¬ g_fnd N (g_cs N C r)) {Q : Int32 → x_S → x_L → Prop} (h : ∀ ρ' : x_S, m_E N (g_cs N C r) n f ρ ρ' → Q (nI r) ρ' θ) : wX11_mergeAllNow ρ θ Q := by
  have hN := hM.1
  unfold wX11_mergeAllNow
  refine sM_keepE hM hH (fun ρ1 hk hF1 hC1 => ?_)
  refine x_S1 (fun i ρ' θ' => θ = θ' ∧ m_fp ρ1 ρ' ∧ g_WC N (g_cs N C i) ∧ m_C N (g_cs N C i) 0 ρ') (fun i => nI i) (lo := 0) (n := r) (Nat.zero_le _) ?_ ?_ ⟨rfl, m_fp.rf _, hM.2.1, hC1⟩ rfl
  · rintro K i ρ2 θ' - hi ⟨rfl, f2, hW2, hC2⟩ hK
    have hM2 : g_M N (g_cs N C i) ρ2 := ⟨hN, hW2, hF1.cong (f2.2.1 3 (by omega)), hC2⟩
    unfold wX11_mergeAllNow_6 wX11_mergeAllNow_25
    rw [show (nI i + 1 : Int32) = nI (i + 1) from nI_add i 1]
    exact i_le (a := 30) (by omega) (by omega) (fun y => absurd y (by omega)) (fun _ => sM_mergedBest hM2 (fun _ ρ3 f3 hC3 hW3 => i_one' (hK ρ3 θ ⟨rfl, f2.tr f3, hW3, hC3⟩)) (fun y => absurd (g i hi) y))
  · rintro K ρ2 θ' ⟨rfl, f2, hW2, hC2⟩
    have hM2 : g_M N (g_cs N C r) ρ2 := ⟨hN, hW2, hF1.cong (f2.2.1 3 (by omega)), hC2⟩
    unfold wX11_mergeAllNow_6 wX11_mergeAllNow_25
    refine i_le (a := 30) (by omega) (by omega) (fun _ => h ρ2 ⟨ρ1, hk, f2, hC2⟩) (fun y => ?_)
    have ge : ¬ g_fnd N (g_cs N C r) := by
      rcases ge with e | e
      · omega
      · exact e
    exact sM_mergedBest hM2 (fun y2 => absurd y2 ge) (fun _ ρ3 f3 => i_zer (h ρ3 ⟨ρ1, hk, f2.tr f3.fp, f3.C0 hN hC2⟩))
end MA
theorem z_27 : z_p27 g_R := by
  intro σ τ ρ θ hR
  obtain ⟨N, C, w, hX, hM, hV⟩ := id hR
  have f0 : m_fr ρ (x_up ρ 0 5 0) := m_fr.up0 (Or.inl rfl)
  have hM0 := hM.fr f0
  have hV0 := hV.fr (x_fq.rf σ) f0
  obtain ⟨P, n, l, f, hH⟩ := id hV0.1
  unfold wX10_mergeAll
  refine sX_byGain hX hH (fun r σ' w' a b c d => ?_)
  unfold wX11_mergeAll
  refine sM_allNow hM0 hH a b c (fun ρ' hm => ⟨rfl, ?_⟩)
  exact (g_R.edit (θ' := θ) hX hM0 hV0 hH d hm).1
