/-! a command of a script -/
def c_do (N C : g_F) : Nat → Nat → Nat → Nat → g_F → Prop
  | 0, a, b, c, C' => (a < N 0 1 ∧ b < N 8 a) ∧ C' = g_upC C 1 (10 * a + b) c
  | 1, a, b, c, C' => (a < N 0 1 ∧ b < N 8 a ∧ c ≤ N 4 (N 9 (10 * a + b))) ∧ C' = g_upC C 2 (10 * a + b) c
  | 2, a, b, _, C' => a < N 0 1 ∧ C' = g_upC C 0 a b
  | 3, a, b, _, C' => (a < N 0 1 ∧ b < N 0 1 ∧ g_rsn N C a b = 0) ∧ C' = g_mrg N C a b
  | 4, a, _, _, C' => a < N 0 1 ∧ C' = (g_hu N C a (N 8 a)).1
  | 5, a, _, _, C' => a < N 0 1 ∧ C' = (g_re N C a (N 8 a)).1
  | _ + 6, _, _, _, C' => ∃ r, r ≤ 30 ∧ (∀ j, j < r → g_fnd N (g_cs N C j)) ∧ (r = 30 ∨ ¬ g_fnd N (g_cs N C r)) ∧ C' = g_cs N C r
def c_no (N C : g_F) : Nat → Nat → Nat → Nat → Prop
  | 0, a, b, _ => ¬ (a < N 0 1 ∧ b < N 8 a)
  | 1, a, b, c => ¬ (a < N 0 1 ∧ b < N 8 a ∧ c ≤ N 4 (N 9 (10 * a + b)))
  | 2, a, _, _ => ¬ a < N 0 1
  | 3, a, b, _ => ¬ (a < N 0 1 ∧ b < N 0 1 ∧ g_rsn N C a b = 0)
  | 4, a, _, _ => ¬ a < N 0 1
  | 5, a, _, _ => ¬ a < N 0 1
  | _ + 6, _, _, _ => False
theorem nI_m3 {a : Nat} (ha : a < 1000000000) : ¬ nI a = -3 := fun h => by
  have e := congrArg Int32.toInt h
  rw [nI_toInt (sm31 ha), show (-3 : Int32).toInt = -3 from by decide] at e
  omega
theorem g_rg_i {a n : Nat} (ha : a < 1000000) (hn : n < 1000000) : g_rg (nI a) n ↔ a < n := by
  constructor
  · rintro ⟨t, ht, e⟩
    rw [(nI_eq (by omega) (by omega)).mp e]
    exact ht
  · intro h
    exact ⟨a, h, rfl⟩
theorem g_rp_i {N : g_F} (hN : g_WN N) {a c : Nat} (ha : a < 1000000) (hc : c < 1000000) : g_rp N (nI a) (nI c) ↔ a < N 0 1 ∧ c < N 8 a := by
  have hb := hN.1.2
  constructor
  · rintro ⟨t, q, ht, hq, e1, e2⟩
    have h10 := (hN.2.2.1 t ht).2.2.2.2.2
    rw [(nI_eq (by omega) (by omega)).mp e1, (nI_eq (by omega) (by omega)).mp e2]
    exact ⟨ht, hq⟩
  · rintro ⟨h1, h2⟩
    exact ⟨a, c, h1, h2, rfl, rfl⟩
theorem i_sel6 {w : Nat} (hw : w ≤ 5) {P0 P1 P2 P3 P4 P5 : Prop} (h0 : w = 0 → P0) (h1 : w = 1 → P1) (h2 : w = 2 → P2) (h3 : w = 3 → P3) (h4 : w = 4 → P4) (h5 : w = 5 → P5) : (nI w = 0 → P0) ∧ (nI w = 1 → P1) ∧ (nI w = 2 → P2) ∧ (nI w = 3 → P3) ∧ (nI w = 4 → P4) ∧ (¬ nI w = 0 → ¬ nI w = 1 → ¬ nI w = 2 → ¬ nI w = 3 → ¬ nI w = 4 → P5) := by
  have un : ∀ k, k < 7 → nI w = nI k → w = k := fun k hk e => (nI_eq (by omega) (by omega)).mp e
  refine ⟨fun g => h0 (un 0 (by omega) g), fun g => h1 (un 1 (by omega) g), fun g => h2 (un 2 (by omega) g), fun g => h3 (un 3 (by omega) g), fun g => h4 (un 4 (by omega) g), fun g0 g1 g2 g3 g4 => h5 ?_⟩
  have n0 : w ≠ 0 := fun e => g0 (by rw [e]; rfl)
  have n1 : w ≠ 1 := fun e => g1 (by rw [e]; rfl)
  have n2 : w ≠ 2 := fun e => g2 (by rw [e]; rfl)
  have n3 : w ≠ 3 := fun e => g3 (by rw [e]; rfl)
  have n4 : w ≠ 4 := fun e => g4 (by rw [e]; rfl)
  omega
theorem i_sel7 {w : Nat} (hw : w ≤ 6) {P0 P1 P2 P3 P4 P5 P6 : Prop} (h0 : w = 0 → P0) (h1 : w = 1 → P1) (h2 : w = 2 → P2) (h3 : w = 3 → P3) (h4 : w = 4 → P4) (h5 : w = 5 → P5) (h6 : w = 6 → P6) : (nI w = 0 → P0) ∧ (nI w = 1 → P1) ∧ (nI w = 2 → P2) ∧ (nI w = 3 → P3) ∧ (nI w = 4 → P4) ∧ (nI w = 5 → P5) ∧ (¬ nI w = 0 → ¬ nI w = 1 → ¬ nI w = 2 → ¬ nI w = 3 → ¬ nI w = 4 → ¬ nI w = 5 → P6) := by
  have un : ∀ k, k < 7 → nI w = nI k → w = k := fun k hk e => (nI_eq (by omega) (by omega)).mp e
  refine ⟨fun g => h0 (un 0 (by omega) g), fun g => h1 (un 1 (by omega) g), fun g => h2 (un 2 (by omega) g), fun g => h3 (un 3 (by omega) g), fun g => h4 (un 4 (by omega) g), fun g => h5 (un 5 (by omega) g), fun g0 g1 g2 g3 g4 g5 => h6 ?_⟩
  have n0 : w ≠ 0 := fun e => g0 (by rw [e]; rfl)
  have n1 : w ≠ 1 := fun e => g1 (by rw [e]; rfl)
  have n2 : w ≠ 2 := fun e => g2 (by rw [e]; rfl)
  have n3 : w ≠ 3 := fun e => g3 (by rw [e]; rfl)
  have n4 : w ≠ 4 := fun e => g4 (by rw [e]; rfl)
  have n5 : w ≠ 5 := fun e => g5 (by rw [e]; rfl)
  omega
theorem x_tr.rf (σ : x_S) : x_tr σ σ := fun _ _ => rfl
section PF
variable {N C : g_F} {w : Nat → Nat} {P : Nat → g_F} {n l f : Nat} {σ ρ : x_S} {τ θ : x_L} {Q : Int32 → x_S → x_L → Prop}
theorem sX_word {v k : Nat} (hv : v < 30) (h25 : σ 25 v = nI k) (h : Q (nI k) σ τ) : wX8_word (nI v) σ τ Q := by
  unfold wX8_word
  rw [i_cl (by omega), h25]
  exact ⟨i_in (by omega) (by omega), h⟩
theorem sX_argu {v i : Nat} (hv : v < 30) (hi : i < 3) (h : Q (σ 26 (3 * v + i)) σ τ) : wX8_argument (nI v) (nI i) σ τ Q := by
  unfold wX8_argument
  have e : (nI v * 3 + nI i : Int32) = nI (3 * v + i) := by
    show nI v * nI 3 + nI i = _
    rw [nI_mul, nI_add, Nat.mul_comm]
  rw [e, i_cl (by omega)]
  exact ⟨i_in (by omega) (by omega), h⟩
theorem sX_perform (hX : g_X N C w σ τ) (hH : g_Hi N P n l f σ ρ) {v k : Nat} {A : Nat → Nat} (hv : v < 30) (h25 : σ 25 v = nI k) (hk : k ≤ 6) (hA : ∀ i, i < c_ar k → σ 26 (3 * v + i) = nI (A i) ∧ c_lo k i ≤ A i ∧ A i ≤ c_hi k i) (h1 : ∀ (C' : g_F) (σ1 σ' : x_S) (w' : Nat → Nat), c_do N C k (A 0) (A 1) (A 2) C' → x_tr σ σ1 → x_E N C C' l n w' σ1 τ σ' → Q 1 σ' τ) (h0 : ∀ σ' : x_S, c_no N C k (A 0) (A 1) (A 2) → x_tr σ σ' → Q 0 σ' τ) : wX10_perform (nI v) σ τ Q := by
  obtain ⟨hN, hW, hF, hR0, hC, hA0, hB⟩ := id hX
  have hb := hN.1
  unfold wX10_perform
  refine sX_word hv h25 (sX_argu (i := 0) hv (by omega) (sX_argu (i := 1) hv (by omega) (sX_argu (i := 2) hv (by omega) ?_)))
  refine i_ne (b := 6) (by omega) (by omega) (fun n6 => ?_) (fun e6 => ?_)
  · have har : 1 ≤ c_ar k := by
      unfold c_ar
      repeat' split
      all_goals omega
    obtain ⟨a0, -, a2⟩ := hA 0 (by omega)
    have a3 : A 0 ≤ 11 := by
      rw [show c_hi k 0 = 11 from if_pos (Or.inl rfl)] at a2
      exact a2
    rw [a0]
    refine sX_hasTruck hN hF (fun c => i_one ?_) (fun c => i_zer' (h0 σ ?_ (x_tr.rf _)))
    · have ha := (g_rg_i (by omega) (by omega)).mp c
      refine i_sel6 (by omega) (fun e => ?_) (fun e => ?_) (fun e => ?_) (fun e => ?_) (fun e => ?_) (fun e => ?_)
      · subst e
        obtain ⟨b0, -, b2⟩ := hA 1 (by decide)
        obtain ⟨c0, -, c2⟩ := hA 2 (by decide)
        have b3 : A 1 ≤ 9 := b2
        have c3 : A 2 ≤ 120 := c2
        rw [b0, c0]
        unfold wX10_performWait
        refine sX_hasPlace hN hF (fun d => i_one ?_) (fun d => i_zer' ⟨Or.inl rfl, h0 σ ?_ (x_tr.rf _)⟩)
        · have hd := (g_rp_i hN (by omega) (by omega)).mp d
          refine sX_stopAt (sX_chWait hX hH (g_is_of hN hd.1 hd.2).1 c3 (fun σ' w' hx => ⟨Or.inr rfl, h1 _ σ σ' w' ?_ (x_tr.rf _) hx⟩))
          exact ⟨hd, rfl⟩
        · exact fun y => d ((g_rp_i hN (by omega) (by omega)).mpr y)
      · subst e
        obtain ⟨b0, -, b2⟩ := hA 1 (by decide)
        obtain ⟨c0, c1, c2⟩ := hA 2 (by decide)
        have b3 : A 1 ≤ 9 := b2
        have c3 : A 2 ≤ 120 := c2
        have c4 : 40 ≤ A 2 := c1
        rw [b0, c0]
        unfold wX10_performSpeed wX10_performSpeed_37
        refine sX_hasPlace hN hF (fun d => i_one' ?_) (fun d => i_zer ⟨Or.inl rfl, h0 σ ?_ (x_tr.rf _)⟩)
        · have hd := (g_rp_i hN (by omega) (by omega)).mp d
          obtain ⟨hs, e1, e2, b1, b2', b3'⟩ := g_is_of hN hd.1 hd.2
          have hrd := hN.2.2.2 _ _ hd.1 hd.2
          have hlim := (hN.2.1 _ hrd).2.2.2.2
          refine sX_stopAt ⟨i_in b1 (by omega), ?_⟩
          rw [i_cl (by omega), hF.2.2.2 _ hs, i_cl (by omega), (hF.2.1 _ hrd).2.2.2]
          refine ⟨i_in (by omega) (by omega), i_le (by omega) (by omega) (fun g => ?_) (fun g => ⟨Or.inl rfl, h0 σ ?_ (x_tr.rf _)⟩)⟩
          · refine sX_stopAt (sX_chSpeed hX hH hs c4 g (fun σ' w' hx => ⟨Or.inr rfl, h1 _ σ σ' w' ?_ (x_tr.rf _) hx⟩))
            exact ⟨⟨hd.1, hd.2, g⟩, rfl⟩
          · exact fun y => absurd y.2.2 (by omega)
        · exact fun y => d ((g_rp_i hN (by omega) (by omega)).mpr ⟨y.1, y.2.1⟩)
      · subst e
        obtain ⟨b0, -, b2⟩ := hA 1 (by decide)
        have b3 : A 1 ≤ 2000 := b2
        rw [b0]
        refine sX_chStart hX hH ha b3 (fun σ' w' hx => h1 _ σ σ' w' ?_ (x_tr.rf _) hx)
        exact ⟨ha, rfl⟩
      · subst e
        obtain ⟨b0, -, b2⟩ := hA 1 (by decide)
        have b3 : A 1 ≤ 11 := b2
        rw [b0]
        unfold wX10_perform_162 wX10_perform_163
        refine sX_hasTruck hN hF (fun d => i_one' ?_) (fun d => i_zer ⟨Or.inl rfl, h0 σ ?_ (x_tr.rf _)⟩)
        · have hd := (g_rg_i (by omega) (by omega)).mp d
          have hrl := g_rlen_b N (A 0) (A 1)
          refine sX_mergeTwo hX hH ha hd (fun g σ1 σ' w' fx hx => ⟨fun y => absurd y (nI_m3 (by omega)), fun _ => ⟨Or.inr rfl, h1 _ σ1 σ' w' ?_ fx hx⟩⟩) (fun g σ' fx => i_self ⟨Or.inl rfl, h0 σ' ?_ fx⟩)
          · exact ⟨⟨ha, hd, g⟩, rfl⟩
          · exact fun y => g y.2.2
        · exact fun y => d ((g_rg_i (by omega) (by omega)).mpr y.2.1)
      · subst e
        refine sX_speedUp hX hH ha (fun σ' w' hx => h1 _ σ σ' w' ?_ (x_tr.rf _) hx)
        exact ⟨ha, rfl⟩
      · subst e
        refine sX_slowDown hX hH ha (fun σ' w' hx => h1 _ σ σ' w' ?_ (x_tr.rf _) hx)
        exact ⟨ha, rfl⟩
    · have ha : ¬ A 0 < N 0 1 := fun y => c ((g_rg_i (by omega) (by omega)).mpr y)
      rcases (show k = 0 ∨ k = 1 ∨ k = 2 ∨ k = 3 ∨ k = 4 ∨ k = 5 by omega) with rfl | rfl | rfl | rfl | rfl | rfl
      · exact fun y => ha y.1
      · exact fun y => ha y.1
      · exact ha
      · exact fun y => ha y.1
      · exact ha
      · exact ha
  · subst e6
    refine sX_byGain hX hH (fun r σ' w' g1 g2 g3 hx => h1 _ σ σ' w' ?_ (x_tr.rf _) hx)
    exact ⟨r, g1, g2, g3, rfl⟩
theorem sM_isDone (hM : g_M N C ρ) (hH : g_Hi N P n l f σ ρ) {v k : Nat} {A : Nat → Nat} {C' : g_F} (hv : v < 30) (h22 : ρ 22 (4 * v) = nI k) (hk : k ≤ 6) (hA : ∀ i, i < c_ar k → ρ 22 (4 * v + 1 + i) = nI (A i) ∧ c_lo k i ≤ A i ∧ A i ≤ c_hi k i) (h : (c_do N C k (A 0) (A 1) (A 2) C' ∧ ∀ ρ1 ρ' : x_S, m_f2 ρ ρ1 → m_E N C' n f ρ1 ρ' → Q 1 ρ' θ) ∨ (c_no N C k (A 0) (A 1) (A 2) ∧ ∀ ρ' : x_S, m_f2 ρ ρ' → Q 0 ρ' θ)) : wX11_isDone (nI (4 * v)) ρ θ Q := by
  obtain ⟨hN, hW, hF, hC⟩ := id hM
  have hb := hN.1
  unfold wX11_isDone
  rw [show (nI (4 * v) + 1 : Int32) = nI (4 * v + 1) from nI_add _ 1, show (nI (4 * v) + 2 : Int32) = nI (4 * v + 2) from nI_add _ 2, show (nI (4 * v) + 3 : Int32) = nI (4 * v + 3) from nI_add _ 3, i_cl (show 4 * v < 1000000000 by omega), i_cl (show 4 * v + 1 < 1000000000 by omega), i_cl (show 4 * v + 2 < 1000000000 by omega), i_cl (show 4 * v + 3 < 1000000000 by omega), h22]
  refine ⟨i_in (by omega) (by omega), i_in (by omega) (by omega), i_in (by omega) (by omega), i_in (by omega) (by omega), ?_⟩
  have har : k ≤ 5 → ρ 22 (4 * v + 1) = nI (A 0) ∧ A 0 ≤ 11 := fun hk5 => by
    have : 1 ≤ c_ar k := by
      unfold c_ar
      repeat' split
      all_goals omega
    obtain ⟨a0, -, a2⟩ := hA 0 (by omega)
    rw [show c_hi k 0 = 11 from if_pos (Or.inl rfl)] at a2
    exact ⟨a0, a2⟩
  refine i_sel7 hk (fun e => ?_) (fun e => ?_) (fun e => ?_) (fun e => ?_) (fun e => ?_) (fun e => ?_) (fun e => ?_)
  · subst e
    obtain ⟨a0, a3⟩ := har (by omega)
    obtain ⟨b0, -, b2⟩ := hA 1 (by decide)
    obtain ⟨c0, -, c2⟩ := hA 2 (by decide)
    have b3 : A 1 ≤ 9 := b2
    have b0' : ρ 22 (4 * v + 2) = nI (A 1) := b0
    have c0' : ρ 22 (4 * v + 3) = nI (A 2) := c0
    rw [a0, b0', c0']
    unfold wX11_isDone_96 wX11_isDone_97
    refine sM_isPlace hN hF (fun d => i_one' ?_) (fun d => i_zer ⟨Or.inl rfl, ?_⟩)
    · have hd := (g_rp_i hN (by omega) (by omega)).mp d
      rcases h with ⟨⟨-, e⟩, h⟩ | ⟨g, -⟩
      · subst e
        have hch := g_ch hW (g_is_of hN hd.1 hd.2).1
        exact sM_waitNow hM hH hd.1 hd.2 (fun ρ' hm => i_neg (by omega) ⟨Or.inr rfl, h ρ ρ' (m_f2.rf _) hm⟩)
      · exact absurd hd g
    · rcases h with ⟨⟨g, -⟩, -⟩ | ⟨-, h⟩
      · exact absurd ((g_rp_i hN (by omega) (by omega)).mpr g) d
      · exact h ρ (m_f2.rf _)
  · subst e
    obtain ⟨a0, a3⟩ := har (by omega)
    obtain ⟨b0, -, b2⟩ := hA 1 (by decide)
    obtain ⟨c0, -, c2⟩ := hA 2 (by decide)
    have b3 : A 1 ≤ 9 := b2
    have c3 : A 2 ≤ 120 := c2
    have b0' : ρ 22 (4 * v + 2) = nI (A 1) := b0
    have c0' : ρ 22 (4 * v + 3) = nI (A 2) := c0
    rw [a0, b0', c0']
    unfold wX11_isDone_133 wX11_isDone_134
    refine sM_isPlace hN hF (fun d => i_one' ?_) (fun d => i_zer ⟨Or.inl rfl, ?_⟩)
    · have hd := (g_rp_i hN (by omega) (by omega)).mp d
      obtain ⟨hs, -⟩ := g_is_of hN hd.1 hd.2
      have hlim := (hN.2.1 _ (hN.2.2.2 _ _ hd.1 hd.2)).2.2.2.2
      have hch := g_ch hW hs
      refine sM_limit hN hF hd.1 hd.2 (i_lt (by omega) (by omega) (fun g2 => ⟨Or.inl rfl, ?_⟩) (fun g2 => ?_))
      · rcases h with ⟨⟨g, -⟩, -⟩ | ⟨-, h⟩
        · exact absurd g.2.2 (by omega)
        · exact h ρ (m_f2.rf _)
      · rcases h with ⟨⟨-, e⟩, h⟩ | ⟨g, -⟩
        · subst e
          exact sM_speedNow hM hH hd.1 hd.2 (fun ρ' hm => i_neg (by omega) ⟨Or.inr rfl, h ρ ρ' (m_f2.rf _) hm⟩)
        · exact absurd ⟨hd.1, hd.2, g2⟩ g
    · rcases h with ⟨⟨g, -⟩, -⟩ | ⟨-, h⟩
      · exact absurd ((g_rp_i hN (by omega) (by omega)).mpr ⟨g.1, g.2.1⟩) d
      · exact h ρ (m_f2.rf _)
  · subst e
    obtain ⟨a0, a3⟩ := har (by omega)
    obtain ⟨b0, -, b2⟩ := hA 1 (by decide)
    have b3 : A 1 ≤ 2000 := b2
    have b0' : ρ 22 (4 * v + 2) = nI (A 1) := b0
    rw [a0, b0']
    unfold wX11_isDone_156 wX11_isDone_157
    refine sM_isTruck hN hF (fun d => i_one' ?_) (fun d => i_zer ⟨Or.inl rfl, ?_⟩)
    · have hd := (g_rg_i (by omega) (by omega)).mp d
      rcases h with ⟨⟨-, e⟩, h⟩ | ⟨g, -⟩
      · subst e
        have := hW.1 _ hd
        exact sM_startNow hM hH hd (fun ρ' hm => i_neg (by omega) ⟨Or.inr rfl, h ρ ρ' (m_f2.rf _) hm⟩)
      · exact absurd hd g
    · rcases h with ⟨⟨g, -⟩, -⟩ | ⟨-, h⟩
      · exact absurd ((g_rg_i (by omega) (by omega)).mpr g) d
      · exact h ρ (m_f2.rf _)
  · subst e
    obtain ⟨a0, a3⟩ := har (by omega)
    obtain ⟨b0, -, b2⟩ := hA 1 (by decide)
    have b3 : A 1 ≤ 11 := b2
    have b0' : ρ 22 (4 * v + 2) = nI (A 1) := b0
    rw [a0, b0']
    unfold wX11_isDone_187 wX11_isDone_188
    refine sM_isTruck hN hF (fun d => i_one' ?_) (fun d => i_zer ⟨Or.inl rfl, ?_⟩)
    · have hd := (g_rg_i (by omega) (by omega)).mp d
      refine sM_isTruck hN hF (fun d2 => i_one' ?_) (fun d2 => i_zer ⟨Or.inl rfl, ?_⟩)
      · have hd2 := (g_rg_i (by omega) (by omega)).mp d2
        have hrl := g_rlen_b N (A 0) (A 1)
        refine sM_mergeNow hM hH hd hd2 (fun g ρ1 ρ' f1 hm => i_neg (by omega) ⟨Or.inr rfl, ?_⟩) (fun g ρ' f1 => ⟨fun _ => ⟨Or.inl rfl, ?_⟩, fun y => absurd (by decide) y⟩)
        · rcases h with ⟨⟨-, e⟩, h⟩ | ⟨g2, -⟩
          · subst e
            exact h ρ1 ρ' f1 hm
          · exact absurd ⟨hd, hd2, g⟩ g2
        · rcases h with ⟨⟨g2, -⟩, -⟩ | ⟨-, h⟩
          · exact absurd g2.2.2 g
          · exact h ρ' f1
      · rcases h with ⟨⟨g, -⟩, -⟩ | ⟨-, h⟩
        · exact absurd ((g_rg_i (by omega) (by omega)).mpr g.2.1) d2
        · exact h ρ (m_f2.rf _)
    · rcases h with ⟨⟨g, -⟩, -⟩ | ⟨-, h⟩
      · exact absurd ((g_rg_i (by omega) (by omega)).mpr g.1) d
      · exact h ρ (m_f2.rf _)
  · subst e
    obtain ⟨a0, a3⟩ := har (by omega)
    rw [a0]
    unfold wX11_isDone_209 wX11_isDone_210
    refine sM_isTruck hN hF (fun d => i_one' ?_) (fun d => i_zer ⟨Or.inl rfl, ?_⟩)
    · have hd := (g_rg_i (by omega) (by omega)).mp d
      have h10 := (hN.2.2.1 _ hd).2.2.2.2.2
      rcases h with ⟨⟨-, e⟩, h⟩ | ⟨g, -⟩
      · subst e
        have := g_hu_b N C (A 0) (N 8 (A 0))
        exact sM_hurryNow hM hH hd (fun ρ' hm => i_neg (by omega) ⟨Or.inr rfl, h ρ ρ' (m_f2.rf _) hm⟩)
      · exact absurd hd g
    · rcases h with ⟨⟨g, -⟩, -⟩ | ⟨-, h⟩
      · exact absurd ((g_rg_i (by omega) (by omega)).mpr g) d
      · exact h ρ (m_f2.rf _)
  · subst e
    obtain ⟨a0, a3⟩ := har (by omega)
    rw [a0]
    unfold wX11_isDone_231 wX11_isDone_232
    refine sM_isTruck hN hF (fun d => i_one' ?_) (fun d => i_zer ⟨Or.inl rfl, ?_⟩)
    · have hd := (g_rg_i (by omega) (by omega)).mp d
      have h10 := (hN.2.2.1 _ hd).2.2.2.2.2
      rcases h with ⟨⟨-, e⟩, h⟩ | ⟨g, -⟩
      · subst e
        have := g_re_b N C (A 0) (N 8 (A 0))
        exact sM_relaxNow hM hH hd (fun ρ' hm => i_neg (by omega) ⟨Or.inr rfl, h ρ ρ' (m_f2.rf _) hm⟩)
      · exact absurd hd g
    · rcases h with ⟨⟨g, -⟩, -⟩ | ⟨-, h⟩
      · exact absurd ((g_rg_i (by omega) (by omega)).mpr g) d
      · exact h ρ (m_f2.rf _)
  · subst e
    unfold wX11_isDone_245
    rcases h with ⟨⟨r, g1, g2, g3, e⟩, h⟩ | ⟨g, -⟩
    · subst e
      exact sM_allNow hM hH g1 g2 g3 (fun ρ' hm => i_neg (by omega) ⟨Or.inr rfl, h ρ ρ' (m_f2.rf _) hm⟩)
    · exact absurd g (fun y => y)
end PF
