/-! what class and reference keep to, and what a query may do -/
def f_Ch (N C : g_F) (c : Nat) (σ : x_S) : Prop := (∀ t, t < N 0 1 → σ c t = nI (C 0 t)) ∧ ∀ s, g_is N s → σ c (12 + s) = nI (C 1 s) ∧ σ c (132 + s) = nI (C 2 s)
def f_B (N : g_F) (σ : x_S) : Prop := ∃ w, g_E N w ∧ ∀ i, i < g_bg N (N 0 0) → σ 28 i = nI (w i)
def g_Hi (N : g_F) (P : Nat → g_F) (n l f : Nat) (σ ρ : x_S) : Prop := (n ≤ 15 ∧ l < 15 ∧ f < 15) ∧ (σ 63 1 = nI l ∧ σ 63 2 = nI n ∧ ρ 0 2 = nI f ∧ ρ 0 3 = nI n) ∧ ∀ k, k < n → g_WC N (P k) ∧ f_Ch N (P k) (65 + (l + 15 - k) % 15) σ ∧ m_C N (P k) (252 * (3 + (f + n - 1 - k) % 15)) ρ
def g_Sn (N : g_F) (σ ρ : x_S) : Prop := ∀ i, i < 2 → (σ 83 i = 0 ∧ ρ 2 i = 0) ∨ (σ 83 i = 1 ∧ ρ 2 i = 1 ∧ ∃ S, g_WC N S ∧ f_Ch N S (81 + i) σ ∧ m_C N S (252 * (1 + i)) ρ)
def g_Tx (σ ρ : x_S) : Prop := ∃ n, n ≤ 1500 ∧ σ 1 1 = nI n ∧ ρ 0 31 = nI n ∧ (∀ i, i < n → σ 2 i = ρ 21 i ∧ -128 ≤ (σ 2 i).toInt ∧ (σ 2 i).toInt ≤ 127) ∧ σ 1 2 = ρ 0 33 ∧ σ 1 3 = ρ 0 34
def g_Ou (σ ρ : x_S) : Prop := ∃ n, n ≤ 130 ∧ σ 84 1 = nI n ∧ ρ 0 29 = nI n ∧ ∀ i, i < n → σ 85 i = ρ 20 i
/-- the class holds a network, choices, and what follows -/
def g_X (N C : g_F) (w : Nat → Nat) (σ : x_S) (τ : x_L) : Prop := g_WN N ∧ g_WC N C ∧ f_F N σ ∧ f_R N σ τ ∧ f_C N C 33 σ ∧ f_A N C 33 w σ ∧ f_B N σ
def g_M (N C : g_F) (ρ : x_S) : Prop := g_WN N ∧ g_WC N C ∧ m_F N ρ ∧ m_C N C 0 ρ
def g_V (N : g_F) (σ ρ : x_S) : Prop := (∃ P n l f, g_Hi N P n l f σ ρ) ∧ g_Sn N σ ρ ∧ g_Tx σ ρ ∧ g_Ou σ ρ
def g_R (σ : x_S) (τ : x_L) (ρ : x_S) (_ : x_L) : Prop := ∃ N C w, g_X N C w σ τ ∧ g_M N C ρ ∧ g_V N σ ρ
/-- what a query may leave behind -/
def m_fr (ρ ρ' : x_S) : Prop := (∀ z, z = 1 ∨ z = 2 ∨ z = 3 ∨ z = 20 ∨ z = 21 → ρ' z = ρ z) ∧ ∀ i, i = 2 ∨ i = 3 ∨ i = 29 ∨ i = 31 ∨ i = 33 ∨ i = 34 → ρ' 0 i = ρ 0 i
def x_fq (σ σ' : x_S) : Prop := (∀ z, z = 2 ∨ (3 ≤ z ∧ z ≤ 12) ∨ (28 ≤ z ∧ z ≤ 31) ∨ (33 ≤ z ∧ z ≤ 45) ∨ (63 ≤ z ∧ z ≤ 85) → σ' z = σ z) ∧ ∀ i, i < 4 → σ' 1 i = σ 1 i
theorem m_fr.rf (ρ : x_S) : m_fr ρ ρ := ⟨fun _ _ => rfl, fun _ _ => rfl⟩
theorem m_fr.tr {ρ ρ1 ρ2 : x_S} (h1 : m_fr ρ ρ1) (h2 : m_fr ρ1 ρ2) : m_fr ρ ρ2 := ⟨fun z hz => (h2.1 z hz).trans (h1.1 z hz), fun i hi => (h2.2 i hi).trans (h1.2 i hi)⟩
theorem x_fq.rf (σ : x_S) : x_fq σ σ := ⟨fun _ _ => rfl, fun _ _ => rfl⟩
theorem x_fq.tr {σ σ1 σ2 : x_S} (h1 : x_fq σ σ1) (h2 : x_fq σ1 σ2) : x_fq σ σ2 := ⟨fun z hz => (h2.1 z hz).trans (h1.1 z hz), fun i hi => (h2.2 i hi).trans (h1.2 i hi)⟩
/-- cells 4 to 19, 22 are the reference's notes -/
theorem m_fr.of {ρ ρ' : x_S} (h : ∀ z, z < 4 ∨ 14 < z → ρ' z = ρ z) : m_fr ρ ρ' := ⟨fun z hz => h z (by omega), fun i _ => by rw [h 0 (by omega)]⟩
theorem m_fr.up0 {ρ : x_S} {i : Nat} {v : Int32} (h : i = 5 ∨ i = 17 ∨ i = 18 ∨ i = 19 ∨ i = 20 ∨ i = 21 ∨ i = 26 ∨ i = 32 ∨ 35 ≤ i) : m_fr ρ (x_up ρ 0 i v) := ⟨fun z hz => x_up_n (by omega), fun j hj => x_up_sn (by omega)⟩
theorem m_fr.upc {ρ : x_S} {z i : Nat} {v : Int32} (h : (4 ≤ z ∧ z ≤ 19) ∨ z = 22) : m_fr ρ (x_up ρ z i v) := ⟨fun y hy => x_up_n (by omega), fun j _ => by rw [x_up_n (show (0 : Nat) ≠ z by omega)]⟩
theorem f_R.cl {N : g_F} {σ : x_S} {τ τ' : x_L} (h : f_R N σ τ) (e : τ' 32 = τ 32) : f_R N σ τ' := by
  unfold f_R f_Sh at h ⊢
  rw [e]
  exact h
theorem f_Ch.cong {N C : g_F} {c : Nat} {σ σ' : x_S} (h : f_Ch N C c σ) (e : σ' c = σ c) : f_Ch N C c σ' := by
  unfold f_Ch at h ⊢
  rw [e]
  exact h
theorem f_B.cong {N : g_F} {σ σ' : x_S} (h : f_B N σ) (e : σ' 28 = σ 28) : f_B N σ' := by
  unfold f_B at h ⊢
  rw [e]
  exact h
theorem g_M.fr {N C : g_F} {ρ ρ' : x_S} (h : g_M N C ρ) (f : m_fr ρ ρ') : g_M N C ρ' := ⟨h.1, h.2.1, h.2.2.1.cong (f.1 3 (by omega)), h.2.2.2.cong (f.1 1 (by omega))⟩
theorem g_X.fq {N C : g_F} {w : Nat → Nat} {σ σ' : x_S} {τ τ' : x_L} (h : g_X N C w σ τ) (f : x_fq σ σ') (e : τ' 32 = τ 32) : g_X N C w σ' τ' := by
  obtain ⟨h1, h2, h3, h4, h5, h6, h7⟩ := h
  refine ⟨h1, h2, ?_, (h4.cong (fun z hz => f.1 z (by omega))).cl e, h5.cong (fun z hz => f.1 z (by omega)), h6.cong (fun z a c => f.1 z (by omega)) (by rw [f.1 33 (by omega)]), h7.cong (f.1 28 (by omega))⟩
  unfold f_F at h3 ⊢
  rw [f.1 3 (by omega), f.1 4 (by omega), f.1 5 (by omega), f.1 6 (by omega), f.1 7 (by omega), f.1 8 (by omega), f.1 9 (by omega), f.1 10 (by omega), f.1 11 (by omega), f.1 12 (by omega)]
  exact h3
theorem g_Hi.fr {N : g_F} {P : Nat → g_F} {n l f : Nat} {σ σ' ρ ρ' : x_S} (h : g_Hi N P n l f σ ρ) (e : ∀ z, 63 ≤ z → z ≤ 79 → σ' z = σ z) (e2 : ρ' 1 = ρ 1) (e3 : ρ' 0 2 = ρ 0 2) (e4 : ρ' 0 3 = ρ 0 3) : g_Hi N P n l f σ' ρ' := by
  obtain ⟨h1, h2, h3⟩ := h
  refine ⟨h1, ⟨by rw [e 63 (by omega) (by omega)]; exact h2.1, by rw [e 63 (by omega) (by omega)]; exact h2.2.1, by rw [e3]; exact h2.2.2.1, by rw [e4]; exact h2.2.2.2⟩, fun k hk => ⟨(h3 k hk).1, (h3 k hk).2.1.cong (e _ (by omega) (by omega)), (h3 k hk).2.2.cong e2⟩⟩
theorem g_Sn.fr {N : g_F} {σ σ' ρ ρ' : x_S} (h : g_Sn N σ ρ) (e : ∀ z, 81 ≤ z → z ≤ 83 → σ' z = σ z) (e2 : ρ' 1 = ρ 1) (e3 : ρ' 2 = ρ 2) : g_Sn N σ' ρ' := fun i hi => by
  rw [e 83 (by omega) (by omega), e3]
  rcases h i hi with g | ⟨g1, g2, S, g3, g4, g5⟩
  · exact Or.inl g
  · exact Or.inr ⟨g1, g2, S, g3, g4.cong (e _ (by omega) (by omega)), g5.cong e2⟩
theorem g_V.fr {N : g_F} {σ σ' ρ ρ' : x_S} (h : g_V N σ ρ) (f : x_fq σ σ') (g : m_fr ρ ρ') : g_V N σ' ρ' := by
  obtain ⟨⟨P, n, l, k, h1⟩, h2, h3, h4⟩ := h
  refine ⟨⟨P, n, l, k, h1.fr (fun z a c => f.1 z (by omega)) (g.1 1 (by omega)) (g.2 2 (by omega)) (g.2 3 (by omega))⟩, h2.fr (fun z a c => f.1 z (by omega)) (g.1 1 (by omega)) (g.1 2 (by omega)), ?_, ?_⟩
  · unfold g_Tx at h3 ⊢
    rw [f.1 2 (by omega), f.2 1 (by omega), f.2 2 (by omega), f.2 3 (by omega), g.1 21 (by omega), g.2 31 (by omega), g.2 33 (by omega), g.2 34 (by omega)]
    exact h3
  · unfold g_Ou at h4 ⊢
    rw [f.1 84 (by omega), f.1 85 (by omega), g.1 20 (by omega), g.2 29 (by omega)]
    exact h4
theorem g_R.fr {σ σ' ρ ρ' : x_S} {τ τ' θ θ' : x_L} (h : g_R σ τ ρ θ) (f : x_fq σ σ') (e : τ' 32 = τ 32) (g : m_fr ρ ρ') : g_R σ' τ' ρ' θ' := by
  obtain ⟨N, C, w, h1, h2, h3⟩ := h
  exact ⟨N, C, w, h1.fq f e, h2.fr g, h3.fr f g⟩
theorem x_upL_ss (τ : x_L) (k j : Nat) (v : Int64) : x_upL τ k j v k j = v := by
  rw [x_upL_s]
  exact if_pos rfl
/-- the law's look at a call that answered, at one that threw -/
theorem q_ok {σ ρ : x_S} {τ θ : x_L} {v : Int32} (hR : g_R σ τ ρ θ) (h5 : ρ 0 5 = 0) : wX11_thrown ρ θ (fun th ρ2 θ2 => th = 0 ∧ ((0 : Int32) = 0 → (x_upL τ 87 0 v.toInt64) 87 0 = v.toInt64) ∧ g_R σ (x_upL τ 87 0 v.toInt64) ρ2 θ2) := by
  unfold wX11_thrown
  exact ⟨h5, fun _ => x_upL_ss _ _ _ _, hR.fr (x_fq.rf _) (x_upL_n (by omega)) (m_fr.rf _)⟩
theorem q_no {σ ρ : x_S} {τ θ : x_L} {k b : Int32} (hR : g_R σ τ ρ θ) (h5 : ρ 0 5 = k) (hk : k ≠ 0) : wX11_thrown ρ θ (fun th ρ2 θ2 => th = k ∧ (k = 0 → τ 87 0 = b.toInt64) ∧ g_R σ τ ρ2 θ2) := by
  unfold wX11_thrown
  exact ⟨h5, fun h => absurd h hk, hR.fr (x_fq.rf _) rfl (m_fr.rf _)⟩
/-! ranges -/
def g_rg (a : Int32) (n : Nat) : Prop := ∃ t, t < n ∧ a = nI t
def g_rp (N : g_F) (a b : Int32) : Prop := ∃ t q, t < N 0 1 ∧ q < N 8 t ∧ a = nI t ∧ b = nI q
theorem i_rg {a : Int32} {n : Nat} {P1 P2 P3 : Prop} (hn : n < 1000000000) (h1 : g_rg a n → P3) (h0 : ¬ g_rg a n → P1 ∧ P2) : (a < 0 → P1) ∧ (¬ a < 0 → (nI n ≤ a → P2) ∧ (¬ nI n ≤ a → P3)) := by
  by_cases c : g_rg a n
  · have h3 := h1 c
    obtain ⟨t, ht, rfl⟩ := c
    exact i_neg (by omega) (i_le (by omega) (by omega) (fun g => absurd g (by omega)) (fun _ => h3))
  · refine ⟨fun _ => (h0 c).1, fun g => ⟨fun _ => (h0 c).2, fun g2 => absurd ?_ c⟩⟩
    obtain ⟨j, hj, rfl⟩ := nI_of g
    exact ⟨j, Nat.lt_of_not_le fun g3 => g2 ((nI_leI (by omega) hj).mpr g3), rfl⟩
section RG
variable {N C : g_F} {w : Nat → Nat} {σ ρ : x_S} {τ θ : x_L} {Q : Int32 → x_S → x_L → Prop} {QX : x_PE} {a a2 : Int32}
theorem sX_hasRoad (hN : g_WN N) (hF : f_F N σ) (h1 : g_rg a (N 0 0) → Q 1 σ τ) (h0 : ¬ g_rg a (N 0 0) → Q 0 σ τ) : wX1_hasRoad a σ τ Q := by
  have hb := hN.1.1
  unfold wX1_hasRoad wX1_hasRoad_16 wX1_hasRoad_17
  rw [hF.1.1]
  exact i_rg (by omega) (fun c => ⟨Or.inr rfl, h1 c⟩) (fun c => ⟨⟨Or.inl rfl, h0 c⟩, ⟨Or.inl rfl, h0 c⟩⟩)
theorem sX_hasTruck (hN : g_WN N) (hF : f_F N σ) (h1 : g_rg a (N 0 1) → Q 1 σ τ) (h0 : ¬ g_rg a (N 0 1) → Q 0 σ τ) : wX1_hasTruck a σ τ Q := by
  have hb := hN.1.2
  unfold wX1_hasTruck wX1_hasTruck_16 wX1_hasTruck_17
  rw [hF.1.2]
  exact i_rg (by omega) (fun c => ⟨Or.inr rfl, h1 c⟩) (fun c => ⟨⟨Or.inl rfl, h0 c⟩, ⟨Or.inl rfl, h0 c⟩⟩)
theorem sX_hasPlace (hN : g_WN N) (hF : f_F N σ) (h1 : g_rp N a a2 → Q 1 σ τ) (h0 : ¬ g_rp N a a2 → Q 0 σ τ) : wX1_hasPlace a a2 σ τ Q := by
  have hb := hN.1.2
  unfold wX1_hasPlace wX1_hasPlace_26 wX1_hasPlace_27
  refine sX_hasTruck hN hF (fun c => i_one' ?_) (fun c => i_zer ⟨Or.inl rfl, h0 (fun ⟨t, q, g1, _, g2, _⟩ => c ⟨t, g1, g2⟩)⟩)
  obtain ⟨t, ht, rfl⟩ := c
  have h10 := (hN.2.2.1 t ht).2.2.2.2.2
  have key : ¬ g_rg a2 (N 8 t) → Q 0 σ τ := fun c => h0 (fun ⟨t', q, g1, g2, g3, g4⟩ => c ⟨q, by rw [(nI_eq (by omega) (by omega)).mp g3]; exact g2, g4⟩)
  by_cases c : g_rg a2 (N 8 t)
  · have h1' := h1 (by obtain ⟨q, hq, e⟩ := c; exact ⟨t, q, ht, hq, rfl, e⟩)
    obtain ⟨q, hq, rfl⟩ := c
    refine i_neg (by omega) ⟨i_in (by omega) (by omega), ?_⟩
    rw [i_cl (by omega), (hF.2.2.1 t ht).2.2.2]
    exact i_le (by omega) (by omega) (fun g => absurd g (by omega)) (fun _ => ⟨Or.inr rfl, h1'⟩)
  · refine ⟨fun _ => ⟨Or.inl rfl, key c⟩, fun g => ⟨i_in (by omega) (by omega), ?_⟩⟩
    rw [i_cl (by omega), (hF.2.2.1 t ht).2.2.2]
    refine ⟨fun _ => ⟨Or.inl rfl, key c⟩, fun g2 => absurd ?_ c⟩
    obtain ⟨j, hj, rfl⟩ := nI_of g
    exact ⟨j, Nat.lt_of_not_le fun g3 => g2 ((nI_leI (by omega) hj).mpr g3), rfl⟩
theorem sX_chkRoad {Q : x_S → x_L → Prop} (hN : g_WN N) (hF : f_F N σ) (h1 : g_rg a (N 0 0) → Q σ τ) (h0 : ¬ g_rg a (N 0 0) → QX eIO σ τ) : wX10_checkRoad a σ τ Q QX := sX_hasRoad hN hF (fun c => i_one (h1 c)) (fun c => i_zer' (h0 c))
theorem sX_chkTruck {Q : x_S → x_L → Prop} (hN : g_WN N) (hF : f_F N σ) (h1 : g_rg a (N 0 1) → Q σ τ) (h0 : ¬ g_rg a (N 0 1) → QX eIO σ τ) : wX10_checkTruck a σ τ Q QX := sX_hasTruck hN hF (fun c => i_one (h1 c)) (fun c => i_zer' (h0 c))
theorem sX_chkPlace {Q : x_S → x_L → Prop} (hN : g_WN N) (hF : f_F N σ) (h1 : g_rp N a a2 → Q σ τ) (h0 : ¬ g_rp N a a2 → QX eIO σ τ) : wX10_checkPlace a a2 σ τ Q QX := sX_hasPlace hN hF (fun c => i_one (h1 c)) (fun c => i_zer' (h0 c))
/-- a0 from l to n - 1 -/
def g_rn (a : Int32) (l n : Nat) : Prop := ∃ t, l ≤ t ∧ t < n ∧ a = nI t
theorem sX_chkRange {Q : x_S → x_L → Prop} {l m : Nat} (hl : l < 1000000000) (hm : m < 1000000000) (h1 : g_rn a l (m + 1) → Q σ τ) (h0 : ¬ g_rn a l (m + 1) → QX eIA σ τ) : wX10_checkRange a (nI l) (nI m) σ τ Q QX := by
  unfold wX10_checkRange wX10_checkRange_10
  by_cases c : g_rn a l (m + 1)
  · have h1' := h1 c
    obtain ⟨t, t1, t2, rfl⟩ := c
    exact i_lt (by omega) (by omega) (fun g => absurd g (by omega)) (fun _ => i_le (by omega) (by omega) (fun _ => h1') (fun g => absurd g (by omega)))
  · refine ⟨fun _ => h0 c, fun g => ⟨fun g2 => absurd ?_ c, fun _ => h0 c⟩⟩
    have hnn : ¬ a < 0 := fun g3 => g (Int32.lt_of_lt_of_le g3 (nI_pos' (by omega)))
    obtain ⟨j, hj, rfl⟩ := nI_of hnn
    have u1 := (nI_leI hj (by omega)).mp g2
    exact ⟨j, Nat.le_of_not_lt fun g3 => g ((nI_ltI hj (by omega)).mpr g3), by omega, rfl⟩
theorem sM_inr {lo hi : Int64} {l n : Nat} (hn : n < 1000000000) (el : lo.toInt = (l : Int)) (eh : hi.toInt = (n : Int) - 1) (h1 : g_rn a l n → Q 1 ρ θ) (h0 : ¬ g_rn a l n → Q 0 ρ θ) : wX11_inRange a.toInt64 lo hi ρ θ Q := by
  unfold wX11_inRange wX11_inRange_17 wX11_inRange_18
  rw [lg_cmp_lt, lg_cmp_gt, Int64.lt_iff_toInt_lt, Int64.lt_iff_toInt_lt, Int32.toInt_toInt64, el, eh]
  by_cases c : g_rn a l n
  · have h1' := h1 c
    obtain ⟨t, t1, t2, rfl⟩ := c
    rw [nI_toInt (by omega)]
    exact ⟨fun g => absurd g (by omega), fun _ => ⟨fun g => absurd g (by omega), fun _ => ⟨Or.inr rfl, h1'⟩⟩⟩
  · refine ⟨fun _ => ⟨Or.inl rfl, h0 c⟩, fun g => ⟨fun _ => ⟨Or.inl rfl, h0 c⟩, fun g2 => absurd ?_ c⟩⟩
    refine ⟨a.toInt.toNat, by omega, by omega, ?_⟩
    apply Int32.toInt_inj.mp
    rw [nI_toInt (by omega)]
    omega
theorem e_m1L {n : Nat} (hn : n < 1000000000) : ((nI n - 1 : Int32).toInt64).toInt = (n : Int) - 1 := by
  rw [Int32.toInt_toInt64, Int32.toInt_sub, nI_toInt (by omega), show (1 : Int32).toInt = 1 from by decide]
  exact Int.bmod_eq_of_le (by omega) (by omega)
theorem sM_isRoad (hN : g_WN N) (hF : m_F N ρ) (h1 : g_rg a (N 0 0) → Q 1 ρ θ) (h0 : ¬ g_rg a (N 0 0) → Q 0 ρ θ) : wX11_isRoad a ρ θ Q := by
  have hb := hN.1.1
  unfold wX11_isRoad
  rw [show (0 : Int32).toNatClampNeg = 0 from rfl, hF.1.1]
  exact sM_inr (l := 0) (n := N 0 0) (by omega) (by decide) (e_m1L (by omega)) (fun c => ⟨Or.inr rfl, h1 (by obtain ⟨t, _, t2, e⟩ := c; exact ⟨t, t2, e⟩)⟩) (fun c => ⟨Or.inl rfl, h0 (fun ⟨t, t2, e⟩ => c ⟨t, Nat.zero_le _, t2, e⟩)⟩)
theorem sM_isTruck (hN : g_WN N) (hF : m_F N ρ) (h1 : g_rg a (N 0 1) → Q 1 ρ θ) (h0 : ¬ g_rg a (N 0 1) → Q 0 ρ θ) : wX11_isTruck a ρ θ Q := by
  have hb := hN.1.2
  unfold wX11_isTruck
  rw [show (1 : Int32).toNatClampNeg = 1 from rfl, hF.1.2]
  exact sM_inr (l := 0) (n := N 0 1) (by omega) (by decide) (e_m1L (by omega)) (fun c => ⟨Or.inr rfl, h1 (by obtain ⟨t, _, t2, e⟩ := c; exact ⟨t, t2, e⟩)⟩) (fun c => ⟨Or.inl rfl, h0 (fun ⟨t, t2, e⟩ => c ⟨t, Nat.zero_le _, t2, e⟩)⟩)
theorem sM_isPlace (hN : g_WN N) (hF : m_F N ρ) (h1 : g_rp N a a2 → Q 1 ρ θ) (h0 : ¬ g_rp N a a2 → Q 0 ρ θ) : wX11_isPlace a a2 ρ θ Q := by
  have hb := hN.1.2
  unfold wX11_isPlace wX11_isPlace_29 wX11_isPlace_30
  refine sM_isTruck hN hF (fun c => i_one' ?_) (fun c => i_zer ⟨Or.inl rfl, h0 (fun ⟨t, q, g1, _, g2, _⟩ => c ⟨t, g1, g2⟩)⟩)
  obtain ⟨t, ht, rfl⟩ := c
  have h10 := (hN.2.2.1 t ht).2.2.2.2.2
  refine sM_places hN hF ht ?_
  refine sM_inr (l := 0) (n := N 8 t) (by omega) (by decide) (e_m1L (by omega)) (fun c => i_one' ⟨Or.inr rfl, h1 ?_⟩) (fun c => i_zer ⟨Or.inl rfl, h0 ?_⟩)
  · obtain ⟨q, _, q2, e⟩ := c
    exact ⟨t, q, ht, q2, rfl, e⟩
  · rintro ⟨t', q, g1, g2, g3, g4⟩
    exact c ⟨q, Nat.zero_le _, by rw [(nI_eq (by omega) (by omega)).mp g3]; exact g2, g4⟩
theorem sM_thr1 {k : Int32} (h : Q 1 (x_up ρ 0 5 k) θ) : wX11_throwsIf 1 k ρ θ Q := ⟨fun g => absurd g (by decide), fun _ => ⟨Or.inr rfl, h⟩⟩
theorem sM_thr0 {k : Int32} (h : Q 0 ρ θ) : wX11_throwsIf 0 k ρ θ Q := ⟨fun _ => ⟨Or.inl rfl, h⟩, fun g => absurd rfl g⟩
end RG
/-! sums over stops, in order -/
def g_part (N : g_F) (f : Nat → Nat) (n : Nat) : Nat := g_sum (fun s => if s / 10 < N 0 1 ∧ s % 10 < N 8 (s / 10) then f s else 0) n
theorem g_part_0 (N : g_F) (f : Nat → Nat) : g_part N f 0 = 0 := rfl
theorem g_part_s {N : g_F} (hN : g_WN N) {f : Nat → Nat} {t q : Nat} (ht : t < N 0 1) (hq : q < N 8 t) : g_part N f (10 * t + (q + 1)) = g_part N f (10 * t + q) + f (10 * t + q) := by
  have h : (10 * t + q) / 10 < N 0 1 ∧ (10 * t + q) % 10 < N 8 ((10 * t + q) / 10) := (g_is_of hN ht hq).1
  unfold g_part
  rw [← Nat.add_assoc, g_sum, if_pos h]
theorem g_part_pad {N : g_F} {f : Nat → Nat} (m : Nat) : ∀ c, (∀ s, m ≤ s → s < m + c → ¬ g_is N s) → g_part N f (m + c) = g_part N f m
  | 0, _ => rfl
  | c + 1, h => by
    have ih := g_part_pad (N := N) (f := f) m c (fun s a b => h s a (by omega))
    have : ¬ ((m + c) / 10 < N 0 1 ∧ (m + c) % 10 < N 8 ((m + c) / 10)) := h (m + c) (by omega) (by omega)
    rw [← ih, ← Nat.add_assoc]
    unfold g_part
    rw [g_sum, if_neg this, Nat.add_zero]
theorem g_part_t {N : g_F} (hN : g_WN N) {f : Nat → Nat} {t : Nat} (ht : t < N 0 1) : g_part N f (10 * t + N 8 t) = g_part N f (10 * (t + 1)) := by
  have h10 := (hN.2.2.1 t ht).2.2.2.2.2
  have := g_part_pad (N := N) (f := f) (10 * t + N 8 t) (10 - N 8 t) (fun s a b h => by
    have h2 := h.2
    have e : s / 10 = t := by omega
    rw [e] at h2
    omega)
  rw [← this]
  congr 1
  omega
theorem g_part_e {N : g_F} (hN : g_WN N) (f : Nat → Nat) : g_part N f (10 * N 0 1) = g_all N f := by
  have h12 := hN.1.2
  have := g_part_pad (N := N) (f := f) (10 * N 0 1) (120 - 10 * N 0 1) (fun s a b h => by
    have := h.1
    omega)
  rw [← this, show 10 * N 0 1 + (120 - 10 * N 0 1) = 120 by omega]
  rfl
theorem g_part_b {N : g_F} {f : Nat → Nat} {b : Nat} (h : ∀ s, g_is N s → f s ≤ b) (n : Nat) : g_part N f n ≤ n * b := g_sum_bound (fun s _ => by
  by_cases z : s / 10 < N 0 1 ∧ s % 10 < N 8 (s / 10)
  · rw [if_pos z]
    exact h s z
  · rw [if_neg z]
    exact Nat.zero_le _)
theorem g_part_cong {N : g_F} {f g : Nat → Nat} (h : ∀ s, g_is N s → f s = g s) (n : Nat) : g_part N f n = g_part N g n := g_sum_congr (fun s _ => by
  by_cases z : s / 10 < N 0 1 ∧ s % 10 < N 8 (s / 10)
  · rw [if_pos z, if_pos z]
    exact h s z
  · rw [if_neg z, if_neg z])
theorem g_all_b {N : g_F} {f : Nat → Nat} {b : Nat} (h : ∀ s, g_is N s → f s ≤ b) : g_all N f ≤ 120 * b := g_part_b h 120
theorem g_all_cong {N : g_F} {f g : Nat → Nat} (h : ∀ s, g_is N s → f s = g s) : g_all N f = g_all N g := g_part_cong h 120
/-- over the places of a truck -/
def g_trk (N : g_F) (f : Nat → Nat) (t : Nat) : Nat := g_sum (fun q => f (10 * t + q)) (N 8 t)
theorem g_part_q {N : g_F} (hN : g_WN N) {f : Nat → Nat} {t : Nat} (ht : t < N 0 1) : ∀ q, q ≤ N 8 t → g_part N f (10 * t + q) = g_part N f (10 * t) + g_sum (fun q => f (10 * t + q)) q
  | 0, _ => rfl
  | q + 1, h => by rw [g_part_s hN ht (show q < N 8 t by omega), g_part_q hN ht q (by omega), g_sum, Nat.add_assoc]
theorem g_part_k {N : g_F} (hN : g_WN N) {f : Nat → Nat} {t : Nat} (ht : t < N 0 1) : g_part N f (10 * (t + 1)) = g_part N f (10 * t) + g_trk N f t := by
  rw [← g_part_t hN ht, g_part_q hN ht (N 8 t) (Nat.le_refl _)]
  rfl
theorem g_trk_b {N : g_F} (hN : g_WN N) {f : Nat → Nat} {b t : Nat} (ht : t < N 0 1) (h : ∀ s, g_is N s → f s ≤ b) : g_trk N f t ≤ 10 * b := by
  have h10 := (hN.2.2.1 t ht).2.2.2.2.2
  have h1 := g_sum_bound (f := fun q => f (10 * t + q)) (b := b) (n := N 8 t) (fun q hq => h _ (g_is_of hN ht hq).1)
  have h2 : N 8 t * b ≤ 10 * b := Nat.mul_le_mul_right _ h10
  unfold g_trk
  omega
/-- the stops of a road, in a row -/
theorem g_road_row {N : g_F} {w : Nat → Nat} (hN : g_WN N) (hE : g_E N w) {r : Nat} (hr : r < N 0 0) (f : Nat → Nat) : g_all N (fun s => if N 9 s = r then f s else 0) = g_sum (fun j => f (w (g_bg N r + j))) (g_bg N (r + 1) - g_bg N r) := by
  unfold g_all
  rw [g_sum_enum (row := fun j => w (g_bg N r + j)) (m := g_bg N (r + 1) - g_bg N r) (fun j hj => g_is_lt hN (hE.1 r _ hr (by omega) (by omega)).1) (fun i j hi hj q => ?_) (fun s hs hf => ?_)]
  · refine g_sum_congr (fun j hj => ?_)
    obtain ⟨h1', h2⟩ := hE.1 r (g_bg N r + j) hr (by omega) (by omega)
    have h1 : w (g_bg N r + j) / 10 < N 0 1 ∧ w (g_bg N r + j) % 10 < N 8 (w (g_bg N r + j) / 10) := h1'
    show (if w (g_bg N r + j) / 10 < N 0 1 ∧ w (g_bg N r + j) % 10 < N 8 (w (g_bg N r + j) / 10) then (if N 9 (w (g_bg N r + j)) = r then f (w (g_bg N r + j)) else 0) else 0) = _
    rw [if_pos h1, if_pos h2]
  · have := hE.2.2 r (g_bg N r + i) (g_bg N r + j) hr (by omega) (by omega) (by omega) (by omega) q
    omega
  · by_cases z : s / 10 < N 0 1 ∧ s % 10 < N 8 (s / 10)
    · rw [if_pos z] at hf
      by_cases z2 : N 9 s = r
      · obtain ⟨i, i1, i2, i3⟩ := hE.2.1 s z
        rw [z2] at i1 i2
        exact ⟨i - g_bg N r, by omega, by rw [show g_bg N r + (i - g_bg N r) = i by omega]; exact i3⟩
      · exact absurd (if_neg z2) hf
    · rw [if_neg z] at hf
      exact absurd rfl hf
