/-! the reference lays keys and positions -/
theorem g_shf_stop {N : g_F} (hN : g_WN N) {s c : Nat} (hs : g_is N s) (hc : s % 10 + c < N 8 (s / 10)) : (s + c) / 10 = s / 10 ∧ (s + c) % 10 = s % 10 + c ∧ g_is N (s + c) := by
  have h10 := (hN.2.2.1 _ hs.1).2.2.2.2.2
  have e1 : (s + c) / 10 = s / 10 := by omega
  have e2 : (s + c) % 10 = s % 10 + c := by omega
  exact ⟨e1, e2, ⟨by rw [e1]; exact hs.1, by rw [e1, e2]; exact hc⟩⟩
section MK
variable {N C : g_F} {ρ : x_S} {θ : x_L}
theorem sM_mateOf (hN : g_WN N) (hM : m_M N C ρ) {t q o : Nat} (ht : t < N 0 1) (hq : q < N 8 t) (ho : o < N 0 1) {Q : Int32 → x_S → x_L → Prop} (h : Q (g_mI N C (10 * t + q) o) ρ θ) : wX11_mateOf (nI t) (nI q) (nI o) ρ θ Q := by
  obtain ⟨hs, -, -, b1, b2, b3⟩ := g_is_of hN ht hq
  have hb := hN.1.2
  unfold wX11_mateOf
  refine sM_spot ?_
  rw [e_mate, i_cl (by omega), hM _ hs o ho]
  exact ⟨i_in (by omega) (by omega), h⟩
theorem g_pl_b (hN : g_WN N) {s o : Nat} (ho : o < N 0 1) : g_pl N C s o ≤ 10 := by
  have h1 := (hN.2.2.1 o ho).2.2.2.2.2
  have h2 := g_first_le (fun q => g_mt N C s (10 * o + q)) (N 8 o)
  unfold g_pl
  omega
/-- is there a mate -/
theorem i_mate {s o : Nat} (hN : g_WN N) (ho : o < N 0 1) {P R : Prop} (h1 : g_has N C s o = true → R) (h2 : g_has N C s o = false → P) : (g_mI N C s o = -1 → P) ∧ (¬ g_mI N C s o = -1 → R) := by
  have hb := g_pl_b (C := C) (s := s) hN ho
  unfold g_mI
  cases h : g_has N C s o with
  | true =>
    rw [if_pos rfl]
    exact i_m1 (by omega) (h1 h)
  | false =>
    rw [if_neg (by decide)]
    exact ⟨fun _ => h2 h, fun g => absurd rfl g⟩
theorem g_mI_has {s o : Nat} (h : g_has N C s o = true) : g_mI N C s o = nI (g_pl N C s o) := if_pos h
theorem sM_shared (hN : g_WN N) (hF : m_F N ρ) {t q o p : Nat} (ht : t < N 0 1) (hq : q < N 8 t) (ho : o < N 0 1) (hp : p < N 8 o) {Q : Int32 → x_S → x_L → Prop} (h : Q (nI (g_shr N (10 * t + q) (10 * o + p))) ρ θ) : wX11_shared (nI t) (nI q) (nI o) (nI p) ρ θ Q := by
  obtain ⟨hs, e1, e2, b1, b2, b3⟩ := g_is_of hN ht hq
  obtain ⟨hs', f1, f2, c1, c2, c3⟩ := g_is_of hN ho hp
  have h10 := (hN.2.2.1 t ht).2.2.2.2.2
  have h10o := (hN.2.2.1 o ho).2.2.2.2.2
  have n1 := hN.1.1
  unfold wX11_shared
  refine x_l5_I (fun k a b c d e ρ' θ' => ∃ n, a = nI t ∧ b = nI q ∧ c = nI o ∧ d = nI p ∧ e = nI n ∧ n + k = 10 ∧ ρ = ρ' ∧ θ = θ' ∧ (q + n < N 8 t → p + n < N 8 o → g_shr N (10 * t + q) (10 * o + p) = n + g_shf N (10 - n) (10 * t + q + n) (10 * o + p + n)) ∧ (¬ (q + n < N 8 t ∧ p + n < N 8 o) → g_shr N (10 * t + q) (10 * o + p) = n)) ?_ 10 ⟨0, rfl, rfl, rfl, rfl, rfl, rfl, rfl, rfl, fun _ _ => (Nat.zero_add _).symm, fun hn => absurd ⟨hq, hp⟩ hn⟩
  rintro k a b c d e ρ' θ' ⟨n, rfl, rfl, rfl, rfl, rfl, hk, rfl, rfl, hI, hI2⟩ K hK
  unfold wX11_shared_3 wX11_shared_56
  refine sM_places hN hF ht ?_
  rw [nI_add, nI_add]
  refine i_le (by omega) (by omega) (fun g => ?_) (fun g => ?_)
  · rw [hI2 (by omega)] at h
    exact h
  · refine sM_places hN hF ho ?_
    refine i_le (by omega) (by omega) (fun g2 => ?_) (fun g2 => ?_)
    · rw [hI2 (by omega)] at h
      exact h
    · have r1 := hN.2.2.2 t (q + n) ht g
      have r2 := hN.2.2.2 o (p + n) ho g2
      refine sM_road hN hF ht g (sM_road hN hF ho g2 ?_)
      have hI := hI g g2
      have hn : 10 - n = (9 - n) + 1 := by omega
      rw [hn, g_shf] at hI
      have ea : 10 * t + q + n = 10 * t + (q + n) := by omega
      have eb : 10 * o + p + n = 10 * o + (p + n) := by omega
      obtain ⟨-, a1, a2, -⟩ := g_is_of hN ht g
      obtain ⟨-, a3, a4, -⟩ := g_is_of hN ho g2
      rw [ea, eb, a1, a2, a3, a4] at hI
      refine i_ne (by omega) (by omega) (fun g3 => ?_) (fun g3 => ?_)
      · rw [if_neg g3] at hI
        rw [hI] at h
        exact h
      · rw [if_pos g3] at hI
        rw [show (nI n + 1 : Int32) = nI (n + 1) from nI_add n 1]
        refine hK (k - 1) _ _ _ _ _ _ _ (by omega) ⟨n + 1, rfl, rfl, rfl, rfl, rfl, by omega, rfl, rfl, fun g4 g5 => ?_, fun g4 => ?_⟩
        · rw [if_pos ⟨by omega, by omega⟩] at hI
          rw [hI, show 10 - (n + 1) = 9 - n by omega, show 10 * t + (q + n) + 1 = 10 * t + q + (n + 1) by omega, show 10 * o + (p + n) + 1 = 10 * o + p + (n + 1) by omega]
          omega
        · rw [if_neg (by omega)] at hI
          exact hI
theorem g_key_f (hN : g_WN N) {s : Nat} (hs : g_is N s) : g_key N C s = g_mx (fun o => if o ≠ s / 10 ∧ g_has N C s o = true then g_shr N s (g_ms N C s o) else 0) (N 0 1) := rfl
theorem sM_layKey (hN : g_WN N) (hF : m_F N ρ) (hM : m_M N C ρ) {t q : Nat} (ht : t < N 0 1) (hq : q < N 8 t) {Q : x_S → x_L → Prop} (h : Q (x_up (x_up ρ 8 (10 * t + q) (nI (g_key N C (10 * t + q)))) 7 (10 * t + q) (nI (g_tog N C (10 * t + q)))) θ) : wX11_layKey (nI t) (nI q) ρ θ Q := by
  obtain ⟨hs, e1, e2, b1, b2, b3⟩ := g_is_of hN ht hq
  have hb := hN.1.2
  unfold wX11_layKey
  refine x_l5_I (fun k a b c d e ρ' θ' => ∃ o, a = nI t ∧ b = nI q ∧ c = nI (g_mx (fun o => if o ≠ (10 * t + q) / 10 ∧ g_has N C (10 * t + q) o = true then g_shr N (10 * t + q) (g_ms N C (10 * t + q) o) else 0) o) ∧ d = nI (g_cnt (fun o => g_has N C (10 * t + q) o) o) ∧ e = nI o ∧ o + k = N 0 1 ∧ ρ = ρ' ∧ θ = θ') ?_ (N 0 1) ⟨0, rfl, rfl, rfl, rfl, rfl, Nat.zero_add _, rfl, rfl⟩
  rintro k a b c d e ρ' θ' ⟨o, rfl, rfl, rfl, rfl, rfl, hk, rfl, rfl⟩ K hK
  have hnt : ρ 3 1 = nI (N 0 1) := hF.1.2
  unfold wX11_layKey_8
  rw [show (1 : Int32).toNatClampNeg = 1 from rfl, hnt]
  refine i_le (by omega) (by omega) (fun g => ?_) (fun ho => ?_)
  · have eo : o = N 0 1 := by omega
    subst eo
    refine sM_spot ⟨i_in b1 (by omega), sM_spot ⟨i_in b1 (by omega), ?_⟩⟩
    rw [i_cl (by omega)]
    exact h
  · refine sM_mateOf hN hM ht hq ho ?_
    have hmx : g_mx (fun o => if o ≠ (10 * t + q) / 10 ∧ g_has N C (10 * t + q) o = true then g_shr N (10 * t + q) (g_ms N C (10 * t + q) o) else 0) o ≤ 10 := g_mx_le (fun i _ => by
      split
      · exact g_shf_le N 10 _ _
      · omega)
    refine (i_mate hN ho (fun hh => ?_) (fun hh => ?_)).symm
    · rw [g_mI_has hh]
      unfold wX11_layKey_65 wX11_layKey_66
      rw [show (nI o + 1 : Int32) = nI (o + 1) from nI_add o 1]
      rw [show (nI (g_cnt (fun o => g_has N C (10 * t + q) o) o) + 1 : Int32) = nI (g_cnt (fun o => g_has N C (10 * t + q) o) (o + 1)) from by rw [g_cnt_succ, if_pos hh]; exact nI_add _ 1]
      refine i_ne (by omega) (by omega) (fun g => ?_) (fun g => ?_)
      · refine sM_shared hN hF ht hq ho (g_has_iff.mp hh) ?_
        refine sM_max (by omega) (by have := g_shf_le N 10 (10 * t + q) (10 * o + g_pl N C (10 * t + q) o); unfold g_shr; omega) ?_
        refine hK (k - 1) _ _ _ _ _ _ _ (by omega) ⟨o + 1, rfl, rfl, ?_, rfl, rfl, by omega, rfl, rfl⟩
        rw [g_mx, e1, if_pos ⟨g, hh⟩]
        rfl
      · refine hK (k - 1) _ _ _ _ _ _ _ (by omega) ⟨o + 1, rfl, rfl, ?_, rfl, rfl, by omega, rfl, rfl⟩
        rw [g_mx, e1, if_neg (fun z => z.1 g), Nat.max_eq_left (Nat.zero_le _)]
    · unfold wX11_layKey_66
      rw [show (nI o + 1 : Int32) = nI (o + 1) from nI_add o 1]
      refine hK (k - 1) _ _ _ _ _ _ _ (by omega) ⟨o + 1, rfl, rfl, ?_, ?_, rfl, by omega, rfl, rfl⟩
      · rw [g_mx, if_neg (fun z => by rw [hh] at z; exact absurd z.2 (by decide)), Nat.max_eq_left (Nat.zero_le _)]
      · rw [g_cnt_succ, if_neg (by rw [hh]; decide), Nat.add_zero]
def m_K (N C : g_F) (ρ : x_S) : Prop := ∀ s, g_is N s → ρ 8 s = nI (g_key N C s) ∧ ρ 7 s = nI (g_tog N C s)
theorem m_K.cong {ρ' : x_S} (h : m_K N C ρ) (e : ρ' 8 = ρ 8) (e7 : ρ' 7 = ρ 7) : m_K N C ρ' := by
  unfold m_K at h ⊢
  rw [e, e7]
  exact h
theorem sM_layPosition (hN : g_WN N) (hF : m_F N ρ) (hM : m_M N C ρ) (hK0 : m_K N C ρ) {t q : Nat} (ht : t < N 0 1) (hq : q < N 8 t) {Q : x_S → x_L → Prop} (h : Q (x_up ρ 9 (10 * t + q) (nI (g_pos N C (10 * t + q)))) θ) : wX11_layPosition (nI t) (nI q) ρ θ Q := by
  obtain ⟨hs, e1, e2, b1, b2, b3⟩ := g_is_of hN ht hq
  have hb := hN.1.2
  have hkb := g_key_b (N := N) (C := C) (10 * t + q)
  unfold wX11_layPosition
  refine sM_spot ⟨i_in b1 (by omega), ?_⟩
  rw [i_cl (by omega), (hK0 _ hs).1]
  refine x_l5_I (fun k a b c d e ρ' θ' => ∃ o, a = nI t ∧ b = nI q ∧ c = nI (g_key N C (10 * t + q)) ∧ d = nI (g_cnt (fun o => g_ahd N C (10 * t + q) o) o) ∧ e = nI o ∧ o + k = N 0 1 ∧ ρ = ρ' ∧ θ = θ') ?_ (N 0 1) ⟨0, rfl, rfl, rfl, rfl, rfl, Nat.zero_add _, rfl, rfl⟩
  rintro k a b c d e ρ' θ' ⟨o, rfl, rfl, rfl, rfl, rfl, hk, rfl, rfl⟩ K hK
  have hnt : ρ 3 1 = nI (N 0 1) := hF.1.2
  have step0 : g_ahd N C (10 * t + q) o = false → o < N 0 1 → wX11_layPosition_95 K Q (nI t) (nI q) (nI (g_key N C (10 * t + q))) (nI (g_cnt (fun o => g_ahd N C (10 * t + q) o) o)) (nI o) ρ θ := fun hh ho => by
    unfold wX11_layPosition_95
    rw [show (nI o + 1 : Int32) = nI (o + 1) from nI_add o 1]
    refine hK (k - 1) _ _ _ _ _ _ _ (by omega) ⟨o + 1, rfl, rfl, rfl, ?_, rfl, by omega, rfl, rfl⟩
    rw [g_cnt_succ, if_neg (by rw [hh]; decide), Nat.add_zero]
  have step1 : g_ahd N C (10 * t + q) o = true → o < N 0 1 → wX11_layPosition_87 K Q (nI t) (nI q) (nI (g_key N C (10 * t + q))) (nI o) (nI (g_cnt (fun o => g_ahd N C (10 * t + q) o) o)) ρ θ := fun hh ho => by
    unfold wX11_layPosition_87 wX11_layPosition_92 wX11_layPosition_95
    rw [show (nI o + 1 : Int32) = nI (o + 1) from nI_add o 1]
    refine hK (k - 1) _ _ _ _ _ _ _ (by omega) ⟨o + 1, rfl, rfl, rfl, ?_, rfl, by omega, rfl, rfl⟩
    rw [g_cnt_succ, if_pos hh]
    exact nI_add _ 1
  have step2 : g_ahd N C (10 * t + q) o = false → o < N 0 1 → wX11_layPosition_91 K Q (nI t) (nI q) (nI (g_key N C (10 * t + q))) (nI o) (nI (g_cnt (fun o => g_ahd N C (10 * t + q) o) o)) ρ θ := fun hh ho => by
    unfold wX11_layPosition_91 wX11_layPosition_92
    rw [show (nI (g_cnt (fun o => g_ahd N C (10 * t + q) o) o) + 0 : Int32) = nI (g_cnt (fun o => g_ahd N C (10 * t + q) o) o) from nI_add _ 0]
    exact step0 hh ho
  have ahd : g_ahd N C (10 * t + q) o = true ↔ (o ≠ t ∧ g_has N C (10 * t + q) o = true ∧ (g_key N C (10 * t + q) < g_key N C (g_ms N C (10 * t + q) o) ∨ g_key N C (g_ms N C (10 * t + q) o) = g_key N C (10 * t + q) ∧ o < t)) := by
    unfold g_ahd
    rw [decide_eq_true_iff, e1]
  have ahf : (¬ (o ≠ t ∧ g_has N C (10 * t + q) o = true ∧ (g_key N C (10 * t + q) < g_key N C (g_ms N C (10 * t + q) o) ∨ g_key N C (g_ms N C (10 * t + q) o) = g_key N C (10 * t + q) ∧ o < t))) → g_ahd N C (10 * t + q) o = false := fun g => by
    cases z : g_ahd N C (10 * t + q) o with
    | false => rfl
    | true => exact absurd (ahd.mp z) g
  unfold wX11_layPosition_17
  rw [show (1 : Int32).toNatClampNeg = 1 from rfl, hnt]
  refine i_le (by omega) (by omega) (fun g => ?_) (fun ho => ?_)
  · have eo : o = N 0 1 := by omega
    subst eo
    refine sM_spot ⟨i_in b1 (by omega), ?_⟩
    rw [i_cl (by omega)]
    exact h
  · refine sM_mateOf hN hM ht hq ho ?_
    refine i_mate hN ho (fun hh => ?_) (fun hh => ?_)
    · rw [g_mI_has hh]
      refine i_ne (by omega) (by omega) (fun g => ?_) (fun g => ?_)
      · obtain ⟨i1, i2, i3, i4⟩ := g_ms_is hN ho hh
        have hkb2 := g_key_b (N := N) (C := C) (g_ms N C (10 * t + q) o)
        refine sM_spot ⟨i_in i4 (by omega), ?_⟩
        rw [show 10 * o + g_pl N C (10 * t + q) o = g_ms N C (10 * t + q) o from rfl, i_cl (by omega), (hK0 _ i1).1]
        refine i_lt (by omega) (by omega) (fun g2 => step1 (ahd.mpr ⟨g, hh, Or.inl g2⟩) ho) (fun g2 => ?_)
        refine i_ne (by omega) (by omega) (fun g3 => step2 (ahf (by omega)) ho) (fun g3 => ?_)
        exact i_le (by omega) (by omega) (fun g4 => step2 (ahf (by omega)) ho) (fun g4 => step1 (ahd.mpr ⟨g, hh, Or.inr ⟨g3, g4⟩⟩) ho)
      · exact step0 (ahf (fun z => z.1 g)) ho
    · exact step0 (ahf (fun z => by rw [hh] at z; exact absurd z.2.1 (by decide))) ho
def m_P (N C : g_F) (ρ : x_S) : Prop := ∀ s, g_is N s → ρ 9 s = nI (g_pos N C s)
theorem m_P.cong {ρ' : x_S} (h : m_P N C ρ) (e : ρ' 9 = ρ 9) : m_P N C ρ' := by
  unfold m_P at h ⊢
  rw [e]
  exact h
theorem g_pos_b (hN : g_WN N) (s : Nat) : g_pos N C s ≤ 12 := Nat.le_trans (g_cnt_le _ _) hN.1.2
/-- the truck at a position of a platoon; an int, -1 for none -/
theorem sM_memberAt (hN : g_WN N) (hF : m_F N ρ) (hM : m_M N C ρ) (hP : m_P N C ρ) {t q : Nat} {i : Int32} (ht : t < N 0 1) (hq : q < N 8 t) {Q : Int32 → x_S → x_L → Prop}
    (h1 : ∀ n, i = nI n → n < 1000000000 → g_mem N C (10 * t + q) n < N 0 1 → Q (nI (g_mem N C (10 * t + q) n)) ρ θ) (h2 : (∀ o, o < N 0 1 → g_has N C (10 * t + q) o = true → nI (g_pos N C (g_ms N C (10 * t + q) o)) ≠ i) → Q (-1) ρ θ) : wX11_memberAt (nI t) (nI q) i ρ θ Q := by
  have hb := hN.1.2
  unfold wX11_memberAt
  refine x_l4_I (fun k a b c e ρ' θ' => ∃ o, a = nI t ∧ b = nI q ∧ c = i ∧ e = nI o ∧ o + k = N 0 1 ∧ ρ = ρ' ∧ θ = θ' ∧ ∀ o', o' < o → g_has N C (10 * t + q) o' = true → nI (g_pos N C (g_ms N C (10 * t + q) o')) ≠ i) ?_ (N 0 1) ⟨0, rfl, rfl, rfl, rfl, Nat.zero_add _, rfl, rfl, fun o' ho' => absurd ho' (Nat.not_lt_zero _)⟩
  rintro k a b c e ρ' θ' ⟨o, rfl, rfl, rfl, rfl, hk, rfl, rfl, hI⟩ K hK
  have hnt : ρ 3 1 = nI (N 0 1) := hF.1.2
  have step : (g_has N C (10 * t + q) o = true → nI (g_pos N C (g_ms N C (10 * t + q) o)) ≠ c) → o < N 0 1 → wX11_memberAt_49 K Q (nI t) (nI q) c (nI o) ρ θ := fun hh ho => by
    unfold wX11_memberAt_49
    rw [show (nI o + 1 : Int32) = nI (o + 1) from nI_add o 1]
    refine hK (k - 1) _ _ _ _ _ _ (by omega) ⟨o + 1, rfl, rfl, rfl, rfl, by omega, rfl, rfl, fun o' ho' hh' => ?_⟩
    by_cases z : o' = o
    · subst z
      exact hh hh'
    · exact hI o' (by omega) hh'
  unfold wX11_memberAt_3
  rw [show (1 : Int32).toNatClampNeg = 1 from rfl, hnt]
  refine i_le (by omega) (by omega) (fun g => ?_) (fun ho => ?_)
  · have eo : o = N 0 1 := by omega
    subst eo
    exact h2 hI
  · refine sM_mateOf hN hM ht hq ho ?_
    refine i_mate hN ho (fun hh => ?_) (fun hh => step (fun z => by rw [hh] at z; cases z) ho)
    rw [g_mI_has hh]
    obtain ⟨i1, i2, i3, i4⟩ := g_ms_is hN ho hh
    have hpb := g_pos_b (C := C) hN (g_ms N C (10 * t + q) o)
    refine sM_spot ⟨i_in i4 (by omega), ?_⟩
    rw [show 10 * o + g_pl N C (10 * t + q) o = g_ms N C (10 * t + q) o from rfl, i_cl (by omega), hP _ i1]
    refine ⟨fun g => step (fun _ => g) ho, fun g => ?_⟩
    have e9 : g_mem N C (10 * t + q) (g_pos N C (g_ms N C (10 * t + q) o)) = o := by
      have hle : g_mem N C (10 * t + q) (g_pos N C (g_ms N C (10 * t + q) o)) ≤ o := g_first_min (p := fun o2 => g_has N C (10 * t + q) o2 && decide (g_pos N C (g_ms N C (10 * t + q) o2) = g_pos N C (g_ms N C (10 * t + q) o))) ho (by rw [hh, Bool.true_and, decide_eq_true_iff])
      have hp := g_first_p (p := fun o2 => g_has N C (10 * t + q) o2 && decide (g_pos N C (g_ms N C (10 * t + q) o2) = g_pos N C (g_ms N C (10 * t + q) o))) (n := N 0 1) (by
        have : g_first (fun o2 => g_has N C (10 * t + q) o2 && decide (g_pos N C (g_ms N C (10 * t + q) o2) = g_pos N C (g_ms N C (10 * t + q) o))) (N 0 1) = g_mem N C (10 * t + q) (g_pos N C (g_ms N C (10 * t + q) o)) := rfl
        omega)
      rw [Bool.and_eq_true, decide_eq_true_iff] at hp
      apply Classical.byContradiction
      intro hne
      have hlt : g_mem N C (10 * t + q) (g_pos N C (g_ms N C (10 * t + q) o)) < o := by omega
      exact hI _ hlt hp.1 ((congrArg nI hp.2).trans g)
    have := h1 _ g.symm (by omega) (by rw [e9]; exact ho)
    rw [e9] at this
    exact this
end MK
