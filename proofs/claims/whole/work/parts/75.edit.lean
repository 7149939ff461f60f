/-! waits, speeds, starts that are set; undo; snapshots -/
def x_K (N C : g_F) (l n : Nat) (σ σ1 : x_S) : Prop := x_kp l σ σ1 ∧ σ1 63 1 = nI ((l + 1) % 15) ∧ σ1 63 2 = nI (min (n + 1) 15) ∧ f_Ch N C (65 + (l + 1) % 15) σ1
def m_K1 (n f : Nat) (ρ ρ1 : x_S) : Prop := m_kp (3 + (f + n) % 15) ρ ρ1 ∧ ρ1 0 2 = nI (if n = 15 then (f + 1) % 15 else f) ∧ ρ1 0 3 = nI (min (n + 1) 15)
/-- the present plan and notes of the reference may be others -/
def m_fp (ρ1 ρ' : x_S) : Prop := (∀ i, 252 ≤ i → i < 4536 → ρ' 1 i = ρ1 1 i) ∧ (∀ z, z = 2 ∨ z = 3 ∨ z = 20 ∨ z = 21 ∨ z = 22 → ρ' z = ρ1 z) ∧ ∀ i, i = 2 ∨ i = 3 ∨ i = 5 ∨ i = 29 ∨ i = 31 ∨ i = 33 ∨ i = 34 ∨ i = 40 → ρ' 0 i = ρ1 0 i
def x_E (N C C' : g_F) (l n : Nat) (w' : Nat → Nat) (σ : x_S) (τ : x_L) (σ' : x_S) : Prop := ∃ σ1, x_K N C l n σ σ1 ∧ g_X N C' w' σ' τ ∧ x_ed σ σ' ∧ (∀ z, 63 ≤ z → σ' z = σ1 z) ∧ ∀ z, 24 ≤ z → z ≤ 26 → σ' z = σ z
def m_E (N C' : g_F) (n f : Nat) (ρ ρ' : x_S) : Prop := ∃ ρ1, m_K1 n f ρ ρ1 ∧ m_fp ρ1 ρ' ∧ m_C N C' 0 ρ'
theorem m_fp.rf (ρ : x_S) : m_fp ρ ρ := ⟨fun _ _ _ => rfl, fun _ _ => rfl, fun _ _ => rfl⟩
theorem m_fp.tr {ρ ρ1 ρ2 : x_S} (h1 : m_fp ρ ρ1) (h2 : m_fp ρ1 ρ2) : m_fp ρ ρ2 := ⟨fun i a b => (h2.1 i a b).trans (h1.1 i a b), fun z hz => (h2.2.1 z hz).trans (h1.2.1 z hz), fun i hi => (h2.2.2 i hi).trans (h1.2.2 i hi)⟩
theorem m_fp.up1 {ρ : x_S} {i : Nat} {v : Int32} (hi : i < 252 ∨ 4536 ≤ i) : m_fp ρ (x_up ρ 1 i v) := ⟨fun j a b => x_up_sn (by omega), fun z hz => x_up_n (by omega), fun j _ => by rw [x_up_n (show (0 : Nat) ≠ 1 by omega)]⟩
theorem m_C.st2 {N C' : g_F} {c : Nat} {ρ ρ' : x_S} (hN : g_WN N) (g : ∀ i, 252 * c ≤ i → i < 252 * c + 252 → ρ' 1 i = ρ 1 i) (h : m_C N C' (252 * c) ρ) : m_C N C' (252 * c) ρ' := by
  refine ⟨fun t ht => ?_, fun s hs => ?_⟩
  · have := g_is_b12 hN ht
    rw [g _ (by omega) (by omega)]
    exact h.1 t ht
  · have := g_is_lt hN hs
    rw [g _ (by omega) (by omega), g _ (by omega) (by omega)]
    exact h.2 s hs
theorem g_R.edit {N C C' : g_F} {w w' : Nat → Nat} {P : Nat → g_F} {n l f : Nat} {σ σ' ρ ρ' : x_S} {τ θ' : x_L} (hX : g_X N C w σ τ) (hM : g_M N C ρ) (hV : g_V N σ ρ) (hH : g_Hi N P n l f σ ρ) (hx : x_E N C C' l n w' σ τ σ') (hm : m_E N C' n f ρ ρ') : g_R σ' τ ρ' θ' ∧ ρ' 0 5 = ρ 0 5 ∧ ρ' 22 = ρ 22 ∧ ρ' 0 40 = ρ 0 40 := by
  obtain ⟨σ1, ⟨fx, e1, e2, e3⟩, hX', fe, f1, -⟩ := hx
  obtain ⟨ρ1, ⟨fm, d1, d2⟩, fp, hC'⟩ := hm
  obtain ⟨hN, hW, -⟩ := hX
  obtain ⟨-, h2, h3, h4⟩ := hV
  have hH1 := hH.keep hN hW hM.2.2.2 fx e1 e2 e3 fm d1 d2
  refine ⟨⟨N, C', w', hX', ⟨hN, hX'.2.1, hM.2.2.1.cong ((fp.2.1 3 (by omega)).trans (fm.1 3 (by omega) (by omega))), hC'⟩, ⟨(fun k => if k = 0 then C else P (k - 1)), _, _, _, hH1.1, ⟨by rw [f1 63 (by omega)]; exact hH1.2.1.1, by rw [f1 63 (by omega)]; exact hH1.2.1.2.1, by rw [fp.2.2 2 (by omega)]; exact hH1.2.1.2.2.1, by rw [fp.2.2 3 (by omega)]; exact hH1.2.1.2.2.2⟩, fun k hk => ?_⟩, fun i hi => ?_, ?_, ?_⟩, ?_, ?_, ?_⟩
  · obtain ⟨a1, a2, a3⟩ := hH1.2.2 k hk
    exact ⟨a1, a2.cong (f1 _ (by omega)), a3.st2 hN (fun i b1 b2 => fp.1 i (by omega) (by omega))⟩
  · rw [fe 83 (by omega), fp.2.1 2 (by omega), fm.1 2 (by omega) (by omega)]
    rcases h2 i hi with g | ⟨g1, g2, S, g3, g4, g5⟩
    · exact Or.inl g
    · refine Or.inr ⟨g1, g2, S, g3, g4.cong (fe _ (by omega)), g5.st2 hN (fun j b1 b2 => ?_)⟩
      rw [fp.1 j (by omega) (by omega), fm.2.2, if_neg (by omega)]
  · unfold g_Tx at h3 ⊢
    rw [fe 1 (by omega), fe 2 (by omega), fp.2.1 21 (by omega), fm.1 21 (by omega) (by omega), fp.2.2 31 (by omega), fp.2.2 33 (by omega), fp.2.2 34 (by omega), fm.2.1 31 (by omega) (by omega), fm.2.1 33 (by omega) (by omega), fm.2.1 34 (by omega) (by omega)]
    exact h3
  · unfold g_Ou at h4 ⊢
    rw [fe 84 (by omega), fe 85 (by omega), fp.2.1 20 (by omega), fm.1 20 (by omega) (by omega), fp.2.2 29 (by omega), fm.2.1 29 (by omega) (by omega)]
    exact h4
  · rw [fp.2.2 5 (by omega), fm.2.1 5 (by omega) (by omega)]
  · rw [fp.2.1 22 (by omega), fm.1 22 (by omega) (by omega)]
  · rw [fp.2.2 40 (by omega), fm.2.1 40 (by omega) (by omega)]
section SE
variable {N C : g_F} {w : Nat → Nat} {P : Nat → g_F} {n l f : Nat} {σ ρ : x_S} {τ θ : x_L} {Q : Int32 → x_S → x_L → Prop}
theorem g_WC.wt (hW : g_WC N C) {s m : Nat} (hm : m ≤ 120) : g_WC N (g_upC C 1 s m) := ⟨fun t ht => by rw [g_upC_n (by omega)]; exact hW.1 t ht, fun t q ht hq => by
  obtain ⟨a, b, c⟩ := hW.2 t q ht hq
  rw [g_upC_n (show ¬ ((2 : Nat) = 1 ∧ 10 * t + q = s) by omega)]
  refine ⟨?_, b, c⟩
  by_cases z : 10 * t + q = s
  · rw [z, g_upC_s]
    exact hm
  · rw [g_upC_n (fun y => z y.2)]
    exact a⟩
theorem g_WC.v (hW : g_WC N C) {s v : Nat} (h1 : 40 ≤ v) (h2 : v ≤ N 4 (N 9 s)) : g_WC N (g_upC C 2 s v) := ⟨fun t ht => by rw [g_upC_n (by omega)]; exact hW.1 t ht, fun t q ht hq => by
  obtain ⟨a, b, c⟩ := hW.2 t q ht hq
  rw [g_upC_n (show ¬ ((1 : Nat) = 2 ∧ 10 * t + q = s) by omega)]
  by_cases z : 10 * t + q = s
  · rw [z, g_upC_s]
    exact ⟨by rw [← z]; exact a, h1, h2⟩
  · rw [g_upC_n (fun y => z y.2)]
    exact ⟨a, b, c⟩⟩
theorem g_WC.b (hW : g_WC N C) {s m : Nat} (hm : m ≤ 2000) : g_WC N (g_upC C 0 s m) := ⟨fun t ht => by
  by_cases z : t = s
  · rw [z, g_upC_s]
    exact hm
  · rw [g_upC_n (fun y => z y.2)]
    exact hW.1 t ht, fun t q ht hq => by
  rw [g_upC_n (by omega), g_upC_n (by omega)]
  exact hW.2 t q ht hq⟩
theorem sX_keepE (hX : g_X N C w σ τ) (hH : g_Hi N P n l f σ ρ) {Q : x_S → x_L → Prop} (h : ∀ σ1 : x_S, x_K N C l n σ σ1 → f_C N C 33 σ1 → Q σ1 τ) : wX2_keep 33 σ τ Q := by
  obtain ⟨⟨h1, h2, h3⟩, ⟨h4, h5, -⟩, -⟩ := hH
  have hm1 : (l + 1) % 15 < 15 := Nat.mod_lt _ (by omega)
  exact sX_keep hX.1 h2 h1 h4 h5 hX.hi (fun σ1 a b c d => h σ1 ⟨a, b, c, d⟩ (hX.hi.cong (fun z hz => a z (by omega) (by omega))))
theorem sX_arrE {C' : g_F} (hX : g_X N C w σ τ) (hH : g_Hi N P n l f σ ρ) (hW' : g_WC N C') {σ1 σ2 : x_S} (hk : x_K N C l n σ σ1) (e : ∀ z, z ≠ 34 → z ≠ 35 → z ≠ 36 → σ2 z = σ1 z) (hC : f_C N C' 33 σ2) {Q : x_S → x_L → Prop} (h : ∀ (σ' : x_S) (w' : Nat → Nat), x_E N C C' l n w' σ τ σ' → Q σ' τ) : wX6_arrange 33 σ2 τ Q := by
  have hm1 : (l + 1) % 15 < 15 := Nat.mod_lt _ (by omega)
  refine sX_rearr hX hW' hC (fun z hz => ?_) (fun σ' w' a hX' => h σ' w' ⟨σ1, hk, hX', fun z hz => ?_, fun z hz => ?_, fun z z1 z2 => ?_⟩)
  · rw [e z (by omega) (by omega) (by omega), hk.1 z (by omega) (by omega)]
  · rw [a z (by omega) (by omega), e z (by omega) (by omega) (by omega), hk.1 z (by omega) (by omega)]
  · rw [a z (by omega) (by omega), e z (by omega) (by omega) (by omega)]
  · rw [a z (by omega) (by omega), e z (by omega) (by omega) (by omega), hk.1 z (by omega) (by omega)]
theorem sM_keepE (hM : g_M N C ρ) (hH : g_Hi N P n l f σ ρ) {Q : x_S → x_L → Prop} (h : ∀ ρ1 : x_S, m_K1 n f ρ ρ1 → m_F N ρ1 → m_C N C 0 ρ1 → Q ρ1 θ) : wX11_keep ρ θ Q := by
  obtain ⟨⟨h1, h2, h3⟩, ⟨-, -, h4, h5⟩, -⟩ := hH
  refine sM_keep h3 h1 h4 h5 (fun ρ1 a b c => h ρ1 ⟨a, b, c⟩ (hM.2.2.1.cong (a.1 3 (by omega) (by omega))) ?_)
  have h0 : m_C N C (252 * 0) ρ := hM.2.2.2
  exact h0.st2 hM.1 (fun i a1 a2 => by rw [a.2.2, if_neg (by omega)])
theorem f_C.wt (hN : g_WN N) (hC : f_C N C 33 σ) {s m : Nat} : f_C N (g_upC C 1 s m) 33 (x_up σ 35 s (nI m)) := ⟨fun t ht => by rw [x_up_n (by omega), g_upC_n (by omega)]; exact hC.1 t ht, fun x hx => by
  rw [x_up_n (show (33 + 3 : Nat) ≠ 35 by omega), g_upC_n (show ¬ ((2 : Nat) = 1 ∧ x = s) by omega)]
  refine ⟨?_, (hC.2 x hx).2⟩
  by_cases z : x = s
  · rw [z, x_up_ss, g_upC_s]
  · rw [x_up_sn z, g_upC_n (fun y => z y.2)]
    exact (hC.2 x hx).1⟩
theorem f_C.v (hN : g_WN N) (hC : f_C N C 33 σ) {s m : Nat} : f_C N (g_upC C 2 s m) 33 (x_up σ 36 s (nI m)) := ⟨fun t ht => by rw [x_up_n (by omega), g_upC_n (by omega)]; exact hC.1 t ht, fun x hx => by
  rw [x_up_n (show (33 + 2 : Nat) ≠ 36 by omega), g_upC_n (show ¬ ((1 : Nat) = 2 ∧ x = s) by omega)]
  refine ⟨(hC.2 x hx).1, ?_⟩
  by_cases z : x = s
  · rw [z, x_up_ss, g_upC_s]
  · rw [x_up_sn z, g_upC_n (fun y => z y.2)]
    exact (hC.2 x hx).2⟩
theorem f_C.b (hN : g_WN N) (hC : f_C N C 33 σ) {s m : Nat} : f_C N (g_upC C 0 s m) 33 (x_up σ 34 s (nI m)) := ⟨fun t ht => by
  by_cases z : t = s
  · rw [z, x_up_ss, g_upC_s]
  · rw [x_up_sn z, g_upC_n (fun y => z y.2)]
    exact hC.1 t ht, fun x hx => by
  rw [x_up_n (by omega), x_up_n (by omega), g_upC_n (by omega), g_upC_n (by omega)]
  exact hC.2 x hx⟩
theorem m_C.wt (hN : g_WN N) (hC : m_C N C 0 ρ) {s m : Nat} (hs : s < 120) : m_C N (g_upC C 1 s m) 0 (x_up ρ 1 (12 + s) (nI m)) := ⟨fun t ht => by have := g_is_b12 hN ht; rw [x_up_sn (by omega), g_upC_n (by omega)]; exact hC.1 t ht, fun x hx => by
  have := g_is_lt hN hx
  rw [x_up_sn (show 0 + (132 + x) ≠ 12 + s by omega), g_upC_n (show ¬ ((2 : Nat) = 1 ∧ x = s) by omega)]
  refine ⟨?_, (hC.2 x hx).2⟩
  by_cases z : x = s
  · rw [z, Nat.zero_add, x_up_ss, g_upC_s]
  · rw [x_up_sn (by omega), g_upC_n (fun y => z y.2)]
    exact (hC.2 x hx).1⟩
theorem m_C.v (hN : g_WN N) (hC : m_C N C 0 ρ) {s m : Nat} (hs : s < 120) : m_C N (g_upC C 2 s m) 0 (x_up ρ 1 (132 + s) (nI m)) := ⟨fun t ht => by have := g_is_b12 hN ht; rw [x_up_sn (by omega), g_upC_n (by omega)]; exact hC.1 t ht, fun x hx => by
  have := g_is_lt hN hx
  rw [x_up_sn (show 0 + (12 + x) ≠ 132 + s by omega), g_upC_n (show ¬ ((1 : Nat) = 2 ∧ x = s) by omega)]
  refine ⟨(hC.2 x hx).1, ?_⟩
  by_cases z : x = s
  · rw [z, Nat.zero_add, x_up_ss, g_upC_s]
  · rw [x_up_sn (by omega), g_upC_n (fun y => z y.2)]
    exact (hC.2 x hx).2⟩
theorem m_C.b (hN : g_WN N) (hC : m_C N C 0 ρ) {s m : Nat} (hs : s < 12) : m_C N (g_upC C 0 s m) 0 (x_up ρ 1 s (nI m)) := ⟨fun t ht => by
  by_cases z : t = s
  · rw [z, Nat.zero_add, x_up_ss, g_upC_s]
  · rw [x_up_sn (by omega), g_upC_n (fun y => z y.2)]
    exact hC.1 t ht, fun x hx => by
  rw [x_up_sn (by omega), x_up_sn (by omega), g_upC_n (by omega), g_upC_n (by omega)]
  exact hC.2 x hx⟩
theorem sX_chWait (hX : g_X N C w σ τ) (hH : g_Hi N P n l f σ ρ) {s m : Nat} (hs : g_is N s) (hm : m ≤ 120) (h : ∀ (σ' : x_S) (w' : Nat → Nat), x_E N C (g_upC C 1 s m) l n w' σ τ σ' → Q (nI (C 1 s)) σ' τ) : wX10_changeWait (nI s) (nI m) σ τ Q := by
  have hl := g_is_lt hX.1 hs
  unfold wX10_changeWait
  refine sX_keepE hX hH (fun σ1 hk hC => ⟨i_in hl (by omega), ?_⟩)
  rw [i_cl (by omega), show σ1 35 s = _ from (hC.2 s hs).1]
  exact sX_arrE hX hH (hX.2.1.wt hm) hk (fun z _ z2 _ => x_up_n z2) (hC.wt hX.1) h
theorem sX_chSpeed (hX : g_X N C w σ τ) (hH : g_Hi N P n l f σ ρ) {s v : Nat} (hs : g_is N s) (h1 : 40 ≤ v) (h2 : v ≤ N 4 (N 9 s)) (h : ∀ (σ' : x_S) (w' : Nat → Nat), x_E N C (g_upC C 2 s v) l n w' σ τ σ' → Q (nI (C 2 s)) σ' τ) : wX10_changeSpeed (nI s) (nI v) σ τ Q := by
  have hl := g_is_lt hX.1 hs
  unfold wX10_changeSpeed
  refine sX_keepE hX hH (fun σ1 hk hC => ⟨i_in hl (by omega), ?_⟩)
  rw [i_cl (by omega), show σ1 36 s = _ from (hC.2 s hs).2]
  exact sX_arrE hX hH (hX.2.1.v h1 h2) hk (fun z _ _ z3 => x_up_n z3) (hC.v hX.1) h
theorem sX_chStart (hX : g_X N C w σ τ) (hH : g_Hi N P n l f σ ρ) {t m : Nat} (ht : t < N 0 1) (hm : m ≤ 2000) (h : ∀ (σ' : x_S) (w' : Nat → Nat), x_E N C (g_upC C 0 t m) l n w' σ τ σ' → Q (nI (C 0 t)) σ' τ) : wX10_changeStart (nI t) (nI m) σ τ Q := by
  have hl := g_is_b12 hX.1 ht
  unfold wX10_changeStart
  refine sX_keepE hX hH (fun σ1 hk hC => ⟨i_in hl (by omega), ?_⟩)
  rw [i_cl (by omega), show σ1 34 t = _ from hC.1 t ht]
  exact sX_arrE hX hH (hX.2.1.b hm) hk (fun z z1 _ _ => x_up_n z1) (hC.b hX.1) h
theorem sM_waitNow (hM : g_M N C ρ) (hH : g_Hi N P n l f σ ρ) {t q m : Nat} (ht : t < N 0 1) (hq : q < N 8 t) (h : ∀ ρ' : x_S, m_E N (g_upC C 1 (10 * t + q) m) n f ρ ρ' → Q (nI (C 1 (10 * t + q))) ρ' θ) : wX11_setWaitNow (nI t) (nI q) (nI m) ρ θ Q := by
  have hN := hM.1
  obtain ⟨hs, -, -, b1, -⟩ := g_is_of hN ht hq
  unfold wX11_setWaitNow
  refine sM_keepE hM hH (fun ρ1 hk hF hC => sM_wait hN hC ht hq (sM_spot ?_))
  rw [show (12 + nI (10 * t + q) : Int32) = nI (12 + (10 * t + q)) from nI_add 12 _, i_cl (by omega)]
  exact ⟨i_in (by omega) (by omega), h _ ⟨ρ1, hk, m_fp.up1 (by omega), hC.wt hN b1⟩⟩
theorem sM_speedNow (hM : g_M N C ρ) (hH : g_Hi N P n l f σ ρ) {t q m : Nat} (ht : t < N 0 1) (hq : q < N 8 t) (h : ∀ ρ' : x_S, m_E N (g_upC C 2 (10 * t + q) m) n f ρ ρ' → Q (nI (C 2 (10 * t + q))) ρ' θ) : wX11_setSpeedNow (nI t) (nI q) (nI m) ρ θ Q := by
  have hN := hM.1
  obtain ⟨hs, -, -, b1, -⟩ := g_is_of hN ht hq
  unfold wX11_setSpeedNow
  refine sM_keepE hM hH (fun ρ1 hk hF hC => sM_speed hN hC ht hq (sM_spot ?_))
  rw [show (132 + nI (10 * t + q) : Int32) = nI (132 + (10 * t + q)) from nI_add 132 _, i_cl (by omega)]
  exact ⟨i_in (by omega) (by omega), h _ ⟨ρ1, hk, m_fp.up1 (by omega), hC.v hN b1⟩⟩
theorem sM_startNow (hM : g_M N C ρ) (hH : g_Hi N P n l f σ ρ) {t m : Nat} (ht : t < N 0 1) (h : ∀ ρ' : x_S, m_E N (g_upC C 0 t m) n f ρ ρ' → Q (nI (C 0 t)) ρ' θ) : wX11_setStartNow (nI t) (nI m) ρ θ Q := by
  have hN := hM.1
  have hl := g_is_b12 hN ht
  unfold wX11_setStartNow
  refine sM_keepE hM hH (fun ρ1 hk hF hC => ?_)
  rw [i_cl (by omega), m_st hC ht]
  exact ⟨i_in (by omega) (by omega), h _ ⟨ρ1, hk, m_fp.up1 (by omega), hC.b hN hl⟩⟩
end SE
theorem g_V.hi {N : g_F} {σ ρ : x_S} (h : g_V N σ ρ) : ∃ P n l f, g_Hi N P n l f σ ρ := h.1
