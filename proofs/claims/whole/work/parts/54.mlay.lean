/-! the reference lays times and mates -/
section ML
variable {N C : g_F} {ρ : x_S} {θ : x_L}
theorem m_st (hC : m_C N C 0 ρ) {t : Nat} (ht : t < N 0 1) : ρ 1 t = nI (C 0 t) := by
  have := hC.1 t ht
  rw [Nat.zero_add] at this
  exact this
theorem sM_layTimes (hN : g_WN N) (hW : g_WC N C) (hF : m_F N ρ) (hC : m_C N C 0 ρ) {t : Nat} (ht : t < N 0 1) {Q : x_S → x_L → Prop}
    (h : ∀ ρ' : x_S, (∀ z, z ≠ 4 → z ≠ 5 → ρ' z = ρ z) → (∀ p, p < N 8 t → ρ' 4 (10 * t + p) = nI (g_en N C (10 * t + p)) ∧ ρ' 5 (10 * t + p) = nI (g_lv N C (10 * t + p))) → (∀ i, i / 10 ≠ t → ρ' 4 i = ρ 4 i ∧ ρ' 5 i = ρ 5 i) → Q ρ' θ) : wX11_layTimes (nI t) ρ θ Q := by
  have hb := hN.1.2
  unfold wX11_layTimes
  rw [i_cl (by omega), m_st hC ht]
  refine ⟨i_in (by omega) (by omega), ?_⟩
  refine x_l3_I (fun k a b c ρ' θ' => ∃ q, a = nI t ∧ b = nI (g_rdy N C t q) ∧ c = nI q ∧ q + k = N 8 t ∧ θ = θ' ∧ (∀ z, z ≠ 4 → z ≠ 5 → ρ' z = ρ z) ∧ (∀ p, p < q → ρ' 4 (10 * t + p) = nI (g_en N C (10 * t + p)) ∧ ρ' 5 (10 * t + p) = nI (g_lv N C (10 * t + p))) ∧ (∀ i, i / 10 ≠ t → ρ' 4 i = ρ 4 i ∧ ρ' 5 i = ρ 5 i)) ?_ (N 8 t) ⟨0, rfl, rfl, rfl, Nat.zero_add _, rfl, fun _ _ _ => rfl, fun p hp => absurd hp (Nat.not_lt_zero _), fun _ _ => ⟨rfl, rfl⟩⟩
  rintro k a b c ρ' θ' ⟨q, rfl, rfl, rfl, hk, rfl, h1, h2, h3⟩ K hK
  have h10 := (hN.2.2.1 t ht).2.2.2.2.2
  have hF' := hF.cong (h1 3 (by omega) (by omega))
  have hC' := hC.cong (h1 1 (by omega) (by omega))
  unfold wX11_layTimes_9
  refine sM_places hN hF' ht ?_
  refine i_le (by omega) (by omega) (fun g => ?_) (fun g => ?_)
  · exact h ρ' h1 (fun p hp => h2 p (by omega)) h3
  · obtain ⟨hs, e1, e2, b1, b2, b3⟩ := g_is_of hN ht g
    have hsp := g_sp_b hN hW hs
    have hrd := hN.2.2.2 t q ht g
    refine sM_spot ?_
    refine sM_wait hN hC' ht g ?_
    refine ⟨i_in b1 (by omega), ?_⟩
    refine sM_spot ?_
    refine ⟨i_in b1 (by omega), ?_⟩
    rw [nI_add, i_cl (by omega)]
    have f1 : (x_up ρ' 4 (10 * t + q) (nI (g_rdy N C t q + C 1 (10 * t + q)))) 3 = ρ' 3 := x_up_n (by omega)
    have f2 : (x_up ρ' 4 (10 * t + q) (nI (g_rdy N C t q + C 1 (10 * t + q)))) 1 = ρ' 1 := x_up_n (by omega)
    refine sM_road hN (hF'.cong f1) ht g ?_
    refine sM_speed hN (hC'.cong f2) ht g ?_
    refine sM_minutes hN (hF'.cong f1) hrd hsp.1 hsp.2 ?_
    refine sM_spot ?_
    refine ⟨i_in b1 (by omega), ?_⟩
    rw [i_cl (by omega), x_up_ss, nI_add]
    rw [show (nI q + 1 : Int32) = nI (q + 1) from nI_add q 1]
    have hen : g_en N C (10 * t + q) = g_rdy N C t q + C 1 (10 * t + q) := by
      unfold g_en
      rw [e1, e2]
    have hlv : g_lv N C (10 * t + q) = g_rdy N C t (q + 1) := by
      unfold g_lv
      rw [e1, e2]
    refine hK (N 8 t - (q + 1)) _ _ _ _ _ (by omega) ⟨q + 1, rfl, rfl, rfl, by omega, rfl, ?_, ?_, ?_⟩
    · intro z z4 z5
      rw [x_up_n z5, x_up_n z4]
      exact h1 z z4 z5
    · intro p hp
      by_cases e : p = q
      · subst e
        rw [x_up_n (show (4 : Nat) ≠ 5 by omega), x_up_ss, x_up_ss, hen, hlv]
        exact ⟨rfl, rfl⟩
      · rw [x_up_n (show (4 : Nat) ≠ 5 by omega), x_up_sn (by omega), x_up_sn (by omega), x_up_n (show (5 : Nat) ≠ 4 by omega)]
        exact h2 p (by omega)
    · intro i hi
      rw [x_up_n (show (4 : Nat) ≠ 5 by omega), x_up_sn (by omega), x_up_sn (by omega), x_up_n (show (5 : Nat) ≠ 4 by omega)]
      exact h3 i hi
/-- for trucks and their places -/
theorem g_loop2 {n : Nat} {m : Nat → Nat} {Bo : (Int32 → x_S → x_L → Prop) → Int32 → x_S → x_L → Prop} {Bi : (Int32 → x_S → x_L → Prop) → (Int32 → Int32 → x_S → x_L → Prop) → Int32 → Int32 → x_S → x_L → Prop} (I : Nat → Nat → x_S → x_L → Prop)
    (ho : ∀ K t σ τ, t < n → I t 0 σ τ → x_l2 (Bi K) (nI t) 0 σ τ → Bo K (nI t) σ τ)
    (hend : ∀ K σ τ, I n 0 σ τ → Bo K (nI n) σ τ)
    (hi : ∀ K K2 t q σ τ, t < n → q < m t → I t q σ τ → (∀ σ' τ', I t (q + 1) σ' τ' → K2 (nI t) (nI (q + 1)) σ' τ') → Bi K K2 (nI t) (nI q) σ τ)
    (hie : ∀ K K2 t σ τ, t < n → I t (m t) σ τ → K (nI (t + 1)) σ τ → Bi K K2 (nI t) (nI (m t)) σ τ)
    (hn : ∀ t σ τ, t < n → I t (m t) σ τ → I (t + 1) 0 σ τ)
    {σ : x_S} {τ : x_L} (h0 : I 0 0 σ τ) : x_l1 Bo 0 σ τ := by
  refine x_l1_I (fun k a σ τ => ∃ t, a = nI t ∧ t + k = n ∧ I t 0 σ τ) ?_ n ⟨0, rfl, Nat.zero_add _, h0⟩
  rintro k a σ τ ⟨t, rfl, hk, hI⟩ K hK
  by_cases e : t = n
  · subst e
    exact hend K σ τ hI
  · have ht : t < n := by omega
    refine ho K t σ τ ht hI ?_
    refine x_l2_I (fun k2 a b σ τ => ∃ q, a = nI t ∧ b = nI q ∧ q + k2 = m t ∧ I t q σ τ) ?_ (m t) ⟨0, rfl, rfl, Nat.zero_add _, hI⟩
    rintro k2 a b σ τ ⟨q, rfl, rfl, hk2, hI2⟩ K2 hK2
    by_cases e2 : q = m t
    · subst e2
      exact hie K K2 t σ τ ht hI2 (hK (k - 1) _ _ _ (by omega) ⟨t + 1, rfl, by omega, hn t σ τ ht hI2⟩)
    · exact hi K K2 t q σ τ ht (by omega) hI2 (fun σ' τ' hI3 => hK2 (k2 - 1) _ _ _ _ (by omega) ⟨q + 1, rfl, rfl, by omega, hI3⟩)
def m_T (N C : g_F) (ρ : x_S) : Prop := ∀ s, g_is N s → ρ 4 s = nI (g_en N C s) ∧ ρ 5 s = nI (g_lv N C s)
theorem m_T.cong {ρ' : x_S} (h : m_T N C ρ) (e : ρ' 4 = ρ 4) (e5 : ρ' 5 = ρ 5) : m_T N C ρ' := by
  unfold m_T at h ⊢
  rw [e, e5]
  exact h
theorem sM_areMates (hN : g_WN N) (hW : g_WC N C) (hF : m_F N ρ) (hC : m_C N C 0 ρ) (hT : m_T N C ρ) {t q o p : Nat} (ht : t < N 0 1) (hq : q < N 8 t) (ho : o < N 0 1) (hp : p < N 8 o) {Q : Int32 → x_S → x_L → Prop}
    (h : Q (if g_mt N C (10 * t + q) (10 * o + p) = true then 1 else 0) ρ θ) : wX11_areMates (nI t) (nI q) (nI o) (nI p) ρ θ Q := by
  obtain ⟨hs, -, -, b1, -⟩ := g_is_of hN ht hq
  obtain ⟨hs', -, -, b1', -⟩ := g_is_of hN ho hp
  have r1 := hN.2.2.2 t q ht hq
  have r2 := hN.2.2.2 o p ho hp
  have n1 := hN.1.1
  have v1 := g_sp_b hN hW hs
  have v2 := g_sp_b hN hW hs'
  have e1 := (g_en_b hN hW hs).1
  have e2 := (g_en_b hN hW hs').1
  have no : (¬ (N 9 (10 * t + q) = N 9 (10 * o + p) ∧ g_en N C (10 * t + q) = g_en N C (10 * o + p) ∧ C 2 (10 * t + q) = C 2 (10 * o + p))) → Q 0 ρ θ := fun g => by
    rw [if_neg (fun z => g (g_mt_iff.mp z))] at h
    exact h
  unfold wX11_areMates
  refine sM_road hN hF ht hq (sM_road hN hF ho hp ?_)
  refine i_ne (by omega) (by omega) (fun g => ?_) (fun g => ?_)
  · exact ⟨Or.inl rfl, no (fun z => g z.1)⟩
  · refine sM_spot ⟨i_in b1 (by omega), sM_spot ⟨i_in b1' (by omega), ?_⟩⟩
    rw [i_cl (by omega), i_cl (by omega), (hT _ hs).1, (hT _ hs').1]
    refine i_ne (by omega) (by omega) (fun g2 => ?_) (fun g2 => ?_)
    · exact ⟨Or.inl rfl, no (fun z => g2 z.2.1)⟩
    · refine sM_speed hN hC ht hq (sM_speed hN hC ho hp ?_)
      refine i_ne (by omega) (by omega) (fun g3 => ?_) (fun g3 => ?_)
      · exact ⟨Or.inl rfl, no (fun z => g3 z.2.2)⟩
      · rw [if_pos (g_mt_iff.mpr ⟨g, g2, g3⟩)] at h
        exact ⟨Or.inr rfl, h⟩
def g_mI (N C : g_F) (s o : Nat) : Int32 := if g_has N C s o = true then nI (g_pl N C s o) else -1
theorem e_mate (s o : Nat) : (12 * nI s + nI o : Int32) = nI (12 * s + o) := by
  show nI 12 * nI s + nI o = _
  rw [nI_mul, nI_add]
theorem sM_setMate {t q o : Nat} {v : Int32} (ht : t < 12) (hq : q < 10) (ho : o < 12) {Q : x_S → x_L → Prop} (h : Q (x_up ρ 6 (12 * (10 * t + q) + o) v) θ) : wX11_setMate (nI t) (nI q) (nI o) v ρ θ Q := by
  unfold wX11_setMate
  refine sM_spot ?_
  rw [e_mate, i_cl (by omega)]
  exact ⟨i_in (by omega) (by omega), h⟩
/-- pairs of stops that are done: first the one of the lower number -/
def m_D (a b x y : Nat) : Prop := x < a ∨ x = a ∧ y < b
def m_MI (N C : g_F) (a b : Nat) (ρ : x_S) : Prop := ∀ s, g_is N s → ∀ o, o < N 0 1 →
  (g_has N C s o = true → m_D a b (min s (g_ms N C s o)) (max s (g_ms N C s o)) → ρ 6 (12 * s + o) = nI (g_pl N C s o)) ∧ (¬ (g_has N C s o = true ∧ m_D a b (min s (g_ms N C s o)) (max s (g_ms N C s o))) → ρ 6 (12 * s + o) = -1)
theorem m_MI.mv {a b a' b' : Nat} (hN : g_WN N) (h : m_MI N C a b ρ) (e : ∀ x y, g_is N x → g_is N y → x ≤ y → g_mt N C x y = true → (m_D a b x y ↔ m_D a' b' x y)) : m_MI N C a' b' ρ := by
  intro s hs o ho
  have key : g_has N C s o = true → (m_D a b (min s (g_ms N C s o)) (max s (g_ms N C s o)) ↔ m_D a' b' (min s (g_ms N C s o)) (max s (g_ms N C s o))) := fun hh => by
    obtain ⟨i1, -⟩ := g_ms_is hN ho hh
    have hm := g_has_mt hh
    rcases Nat.le_total s (g_ms N C s o) with g | g
    · rw [Nat.min_eq_left g, Nat.max_eq_right g]
      exact e _ _ hs i1 g hm
    · rw [Nat.min_eq_right g, Nat.max_eq_left g]
      exact e _ _ i1 hs g (g_mt_symm hm)
  refine ⟨fun hh hd => (h s hs o ho).1 hh ((key hh).mpr hd), fun hn => (h s hs o ho).2 (fun z => hn ⟨z.1, (key z.1).mp z.2⟩)⟩
theorem m_MI.cong {a b : Nat} {ρ' : x_S} (h : m_MI N C a b ρ) (e : ρ' 6 = ρ 6) : m_MI N C a b ρ' := by
  unfold m_MI at h ⊢
  rw [e]
  exact h
/-- a pair is noted -/
theorem m_MI.set (hN : g_WN N) (hW : g_WC N C) {x y : Nat} (hx : g_is N x) (hy : g_is N y) (hxy : x ≤ y) (hm : g_mt N C x y = true) (h : m_MI N C x y ρ) {ρ' : x_S} (e : ∀ i, ρ' 6 i = if i = 12 * y + x / 10 then nI (x % 10) else if i = 12 * x + y / 10 then nI (y % 10) else ρ 6 i) : m_MI N C x (y + 1) ρ' := by
  have hb := hN.1.2
  have hxe : x = 10 * (x / 10) + x % 10 := by omega
  have hye : y = 10 * (y / 10) + y % 10 := by omega
  have h1 := g_has_of hN hW hy.1 hy.2 (s := x) (by rw [← hye]; exact hm)
  have h2 := g_has_of hN hW hx.1 hx.2 (s := y) (by rw [← hxe]; exact g_mt_symm hm)
  rw [← hye] at h1
  rw [← hxe] at h2
  have p1 : g_pl N C x (y / 10) = y % 10 := by
    have := h1.2
    unfold g_ms at this
    omega
  have p2 : g_pl N C y (x / 10) = x % 10 := by
    have := h2.2
    unfold g_ms at this
    omega
  intro s hs o ho
  have hxl := hx.1
  have hyl := hy.1
  by_cases c1 : s = y ∧ o = x / 10
  · obtain ⟨rfl, rfl⟩ := c1
    rw [e, if_pos rfl]
    refine ⟨fun _ _ => by rw [p2], fun hn => absurd ⟨h2.1, ?_⟩ hn⟩
    rw [h2.2, Nat.min_eq_right hxy, Nat.max_eq_left hxy]
    exact Or.inr ⟨rfl, by omega⟩
  · by_cases c2 : s = x ∧ o = y / 10
    · obtain ⟨rfl, rfl⟩ := c2
      rw [e, if_neg (by omega), if_pos rfl]
      refine ⟨fun _ _ => by rw [p1], fun hn => absurd ⟨h1.1, ?_⟩ hn⟩
      rw [h1.2, Nat.min_eq_left hxy, Nat.max_eq_right hxy]
      exact Or.inr ⟨rfl, by omega⟩
    · rw [e, if_neg (by omega), if_neg (by omega)]
      have key : g_has N C s o = true → (m_D x y (min s (g_ms N C s o)) (max s (g_ms N C s o)) ↔ m_D x (y + 1) (min s (g_ms N C s o)) (max s (g_ms N C s o))) := fun hh => by
        obtain ⟨i1, i2, -⟩ := g_ms_is hN ho hh
        unfold m_D
        constructor
        · omega
        · rintro (g | ⟨g1, g2⟩)
          · exact Or.inl g
          · right
            refine ⟨g1, ?_⟩
            apply Classical.byContradiction
            intro hn
            have e3 : max s (g_ms N C s o) = y := by omega
            rcases Nat.le_total s (g_ms N C s o) with z | z
            · rw [Nat.min_eq_left z] at g1
              rw [Nat.max_eq_right z] at e3
              exact c2 ⟨g1, by rw [← i2, e3]⟩
            · rw [Nat.min_eq_right z] at g1
              rw [Nat.max_eq_left z] at e3
              exact c1 ⟨e3, by rw [← i2, g1]⟩
      exact ⟨fun hh hd => (h s hs o ho).1 hh ((key hh).mpr hd), fun hn => (h s hs o ho).2 (fun z => hn ⟨z.1, (key z.1).mp z.2⟩)⟩
def m_M (N C : g_F) (ρ : x_S) : Prop := ∀ s, g_is N s → ∀ o, o < N 0 1 → ρ 6 (12 * s + o) = g_mI N C s o
theorem m_M.cong {ρ' : x_S} (h : m_M N C ρ) (e : ρ' 6 = ρ 6) : m_M N C ρ' := by
  unfold m_M at h ⊢
  rw [e]
  exact h
set_option maxHeartbeats 1000000 in
theorem sM_layMates (hN : g_WN N) (hW : g_WC N C) (hF : m_F N ρ) (hC : m_C N C 0 ρ) (hT : m_T N C ρ) {Q : x_S → x_L → Prop} (h : ∀ ρ' : x_S, (∀ z, z ≠ 6 → ρ' z = ρ z) → m_M N C ρ' → Q ρ' θ) : wX11_layMates ρ θ Q := by
  have hb := hN.1.2
  unfold wX11_layMates
  refine x_l1_I (fun k a ρ' θ' => ∃ i, a = nI i ∧ i + k = 1440 ∧ θ = θ' ∧ (∀ z, z ≠ 6 → ρ' z = ρ z) ∧ ∀ j, j < i → ρ' 6 j = -1) ?_ 1440 ⟨0, rfl, rfl, rfl, fun _ _ => rfl, fun j hj => absurd hj (Nat.not_lt_zero _)⟩
  rintro k a ρ' θ' ⟨i, rfl, hk, rfl, h1, h2⟩ K hK
  unfold wX11_layMates_2
  refine i_le (a := 1440) (by omega) (by omega) (fun g => ?_) (fun g => ?_)
  · -- the pairs
    have hi : i = 1440 := by omega
    subst hi
    have I0 : m_MI N C 0 0 ρ' := fun s hs o ho => by
      have hs2 := g_is_lt hN hs
      refine ⟨fun _ hd => ?_, fun _ => h2 _ (by omega)⟩
      unfold m_D at hd
      omega
    clear h2 hK hk
    have hnt : ρ' 3 1 = nI (N 0 1) := by rw [h1 3 (by omega)]; exact hF.1.2
    refine x_l1_I (fun k a ρ2 θ' => ∃ t, a = nI t ∧ t + k = N 0 1 ∧ θ = θ' ∧ (∀ z, z ≠ 6 → ρ2 z = ρ z) ∧ m_MI N C (10 * t) (10 * t) ρ2) ?_ (N 0 1) ⟨0, rfl, Nat.zero_add _, rfl, h1, I0⟩
    clear I0 h1 hnt
    rintro k a ρ2 θ' ⟨t, rfl, hk, rfl, h1, hI⟩ K hK
    have hnt : ρ2 3 1 = nI (N 0 1) := by rw [h1 3 (by omega)]; exact hF.1.2
    unfold wX11_layMates_24
    rw [show (1 : Int32).toNatClampNeg = 1 from rfl, hnt]
    refine i_le (by omega) (by omega) (fun g => ?_) (fun ht => ?_)
    · refine h ρ2 h1 (fun s hs o ho => ?_)
      have hd : ∀ x y, g_is N x → m_D (10 * t) (10 * t) x y := fun x y hx => by
        have := hx.1
        unfold m_D
        omega
      unfold g_mI
      by_cases hh : g_has N C s o = true
      · rw [if_pos hh]
        obtain ⟨i1, -⟩ := g_ms_is hN ho hh
        refine (hI s hs o ho).1 hh ?_
        rcases Nat.le_total s (g_ms N C s o) with z | z
        · rw [Nat.min_eq_left z]
          exact hd _ _ hs
        · rw [Nat.min_eq_right z]
          exact hd _ _ i1
      · rw [if_neg hh]
        exact (hI s hs o ho).2 (fun z => hh z.1)
    · have hp10 := (hN.2.2.1 t ht).2.2.2.2.2
      refine x_l2_I (fun k a b ρ2 θ' => ∃ q, a = nI t ∧ b = nI q ∧ q + k = N 8 t ∧ θ = θ' ∧ (∀ z, z ≠ 6 → ρ2 z = ρ z) ∧ m_MI N C (10 * t + q) (10 * t + q) ρ2) ?_ (N 8 t) ⟨0, rfl, rfl, Nat.zero_add _, rfl, h1, hI⟩
      clear h1 hI hnt
      rintro k2 a b ρ2 θ' ⟨q, rfl, rfl, hk2, rfl, h1, hI⟩ K2 hK2
      have hF2 := hF.cong (h1 3 (by omega))
      unfold wX11_layMates_36
      refine sM_places hN hF2 ht ?_
      refine i_le (by omega) (by omega) (fun g => ?_) (fun hq => ?_)
      · rw [show (nI t + 1 : Int32) = nI (t + 1) from nI_add t 1]
        refine hK (k - 1) _ _ _ (by omega) ⟨t + 1, rfl, by omega, rfl, h1, hI.mv hN (fun x y hx hy hxy hm => ?_)⟩
        have h3 := hx.2
        have h4 : x / 10 = t → x % 10 < N 8 t := fun e => by rw [← e]; exact h3
        unfold m_D
        omega
      · obtain ⟨hs, e1, e2, b1, b2, b3⟩ := g_is_of hN ht hq
        refine sM_setMate b2 b3 b2 ?_
        have hI1 : m_MI N C (10 * t + q) (10 * t + q + 1) (x_up ρ2 6 (12 * (10 * t + q) + t) (nI q)) := hI.set hN hW hs hs (Nat.le_refl _) (g_mt_refl _) (fun i => by
          rw [x_up_i, e1, e2]
          by_cases z : i = 12 * (10 * t + q) + t
          · rw [if_pos z, if_pos z]
          · rw [if_neg z, if_neg z])
        have hI2 : m_MI N C (10 * t + q) (10 * (t + 1)) (x_up ρ2 6 (12 * (10 * t + q) + t) (nI q)) := hI1.mv hN (fun x y hx hy hxy hm => by
          have h5 : x / 10 = y / 10 → x = y := fun e => by
            apply Classical.byContradiction
            intro hne
            have := g_en_lt hN hW (t := x / 10) (q := x % 10) (p := y % 10) hx.1 (by rw [e]; exact hy.2) (by omega)
            rw [show 10 * (x / 10) + x % 10 = x by omega, show 10 * (x / 10) + y % 10 = y by omega] at this
            have := (g_mt_iff.mp hm).2.1
            omega
          unfold m_D
          constructor
          · omega
          · rintro (g | ⟨g1, g2⟩)
            · exact Or.inl g
            · have := h5 (by omega)
              omega)
        have h1' : ∀ z, z ≠ 6 → (x_up ρ2 6 (12 * (10 * t + q) + t) (nI q)) z = ρ z := fun z hz => by rw [x_up_n hz]; exact h1 z hz
        rw [show (nI t + 1 : Int32) = nI (t + 1) from nI_add t 1]
        generalize x_up ρ2 6 (12 * (10 * t + q) + t) (nI q) = ρ3 at hI2 h1' ⊢
        clear hI hI1 hF2 h1
        refine x_l3_I (fun k a b c ρ2 θ' => ∃ o, a = nI t ∧ b = nI q ∧ c = nI o ∧ o + k = N 0 1 ∧ θ = θ' ∧ (∀ z, z ≠ 6 → ρ2 z = ρ z) ∧ m_MI N C (10 * t + q) (10 * o) ρ2 ∧ t < o) ?_ (N 0 1 - (t + 1)) ⟨t + 1, rfl, rfl, rfl, by omega, rfl, h1', hI2, by omega⟩
        clear hI2 h1'
        rintro k3 a b c ρ2 θ' ⟨o, rfl, rfl, rfl, hk3, rfl, h1, hI, hto⟩ K3 hK3
        have hnt : ρ2 3 1 = nI (N 0 1) := by rw [h1 3 (by omega)]; exact hF.1.2
        unfold wX11_layMates_57
        rw [show (1 : Int32).toNatClampNeg = 1 from rfl, hnt]
        refine i_le (by omega) (by omega) (fun g => ?_) (fun ho => ?_)
        · rw [show (nI q + 1 : Int32) = nI (q + 1) from nI_add q 1]
          refine hK2 (k2 - 1) _ _ _ _ (by omega) ⟨q + 1, rfl, rfl, by omega, rfl, h1, hI.mv hN (fun x y hx hy hxy hm => ?_)⟩
          have h3 := hy.1
          unfold m_D
          omega
        · have hp10o := (hN.2.2.1 o ho).2.2.2.2.2
          refine x_l4_I (fun k a b c d ρ2 θ' => ∃ p, a = nI t ∧ b = nI q ∧ c = nI o ∧ d = nI p ∧ p + k = N 8 o ∧ θ = θ' ∧ (∀ z, z ≠ 6 → ρ2 z = ρ z) ∧ m_MI N C (10 * t + q) (10 * o + p) ρ2 ∧ t < o) ?_ (N 8 o) ⟨0, rfl, rfl, rfl, rfl, Nat.zero_add _, rfl, h1, hI, hto⟩
          · clear hI h1 hnt hto
            rintro k4 a b c d ρ2 θ' ⟨p, rfl, rfl, rfl, rfl, hk4, rfl, h1, hI, hto⟩ K4 hK4
            have hF2 := hF.cong (h1 3 (by omega))
            have hC2 := hC.cong (h1 1 (by omega))
            have hT2 := hT.cong (h1 4 (by omega)) (h1 5 (by omega))
            unfold wX11_layMates_70
            refine sM_places hN hF2 ho ?_
            refine i_le (by omega) (by omega) (fun g => ?_) (fun hp => ?_)
            · rw [show (nI o + 1 : Int32) = nI (o + 1) from nI_add o 1]
              refine hK3 (k3 - 1) _ _ _ _ _ (by omega) ⟨o + 1, rfl, rfl, rfl, by omega, rfl, h1, hI.mv hN (fun x y hx hy hxy hm => ?_), by omega⟩
              have h3 := hy.2
              have h4 : y / 10 = o → y % 10 < N 8 o := fun e => by rw [← e]; exact h3
              unfold m_D
              omega
            · obtain ⟨hy, f1, f2, c1, c2, c3⟩ := g_is_of hN ho hp
              refine sM_areMates hN hW hF2 hC2 hT2 ht hq ho hp ?_
              by_cases hm : g_mt N C (10 * t + q) (10 * o + p) = true
              · rw [if_pos hm]
                refine i_one ?_
                refine sM_setMate b2 b3 c2 (sM_setMate c2 c3 b2 ?_)
                unfold wX11_layMates_113
                rw [show (nI p + 1 : Int32) = nI (p + 1) from nI_add p 1]
                refine hK4 (k4 - 1) _ _ _ _ _ _ (by omega) ⟨p + 1, rfl, rfl, rfl, rfl, by omega, rfl, fun z hz => by rw [x_up_n hz, x_up_n hz]; exact h1 z hz, ?_, hto⟩
                refine hI.set hN hW hs hy (by omega) hm (fun i => ?_)
                rw [x_up_i, x_up_i, e1, e2, f1, f2]
              · rw [if_neg hm]
                refine i_zer' ?_
                unfold wX11_layMates_113
                rw [show (nI p + 1 : Int32) = nI (p + 1) from nI_add p 1]
                refine hK4 (k4 - 1) _ _ _ _ _ _ (by omega) ⟨p + 1, rfl, rfl, rfl, rfl, by omega, rfl, h1, hI.mv hN (fun x y hx hy2 hxy hm2 => ?_), hto⟩
                unfold m_D
                constructor
                · omega
                · rintro (g | ⟨g1, g2⟩)
                  · exact Or.inl g
                  · right
                    refine ⟨g1, ?_⟩
                    apply Classical.byContradiction
                    intro hn
                    have e3 : y = 10 * o + p := by omega
                    rw [g1, e3] at hm2
                    exact hm hm2
  · refine ⟨i_in (by omega) (by omega), ?_⟩
    rw [show (nI i + 1 : Int32) = nI (i + 1) from nI_add i 1, i_cl (by omega)]
    refine hK (k - 1) _ _ _ (by omega) ⟨i + 1, rfl, by omega, rfl, fun z hz => by rw [x_up_n hz]; exact h1 z hz, fun j hj => ?_⟩
    rw [x_up_i]
    split
    · rfl
    · exact h2 j (by omega)
end ML
