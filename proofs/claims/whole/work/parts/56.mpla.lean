/-! the reference lays the platoons' orders, distances, savings -/
theorem e_share : ∀ d, d < 61 → (d ≤ 50 ∧ (150 - 3 * nI d : Int32) = nI (g_share d)) ∨ (50 < d ∧ ¬ 0 ≤ (150 - 3 * nI d : Int32) ∧ g_share d = 0) := by decide +kernel
section MP
variable {N C : g_F} {ρ : x_S} {θ : x_L}
def m_O (N C : g_F) (s : Nat) (ρ : x_S) : Prop := ∀ i, i < g_tog N C s → ρ 13 i = nI (g_mem N C s i) ∧ ρ 14 i = nI (g_pl N C s (g_mem N C s i))
theorem m_O.cong {s : Nat} {ρ' : x_S} (h : m_O N C s ρ) (e : ρ' 13 = ρ 13) (e2 : ρ' 14 = ρ 14) : m_O N C s ρ' := by
  unfold m_O at h ⊢
  rw [e, e2]
  exact h
theorem sM_layOrder (hN : g_WN N) (hW : g_WC N C) (hF : m_F N ρ) (hM : m_M N C ρ) (hK : m_K N C ρ) (hP : m_P N C ρ) {t q : Nat} (ht : t < N 0 1) (hq : q < N 8 t) {Q : Int32 → x_S → x_L → Prop}
    (h : ∀ ρ' : x_S, (∀ z, z ≠ 13 → z ≠ 14 → ρ' z = ρ z) → m_O N C (10 * t + q) ρ' → Q (nI (g_tog N C (10 * t + q))) ρ' θ) : wX11_layOrder (nI t) (nI q) ρ θ Q := by
  obtain ⟨hs, e1, e2, b1, b2, b3⟩ := g_is_of hN ht hq
  have hb := hN.1.2
  have htb := g_tog_b (C := C) hN (10 * t + q)
  unfold wX11_layOrder
  refine sM_spot ⟨i_in b1 (by omega), ?_⟩
  rw [i_cl (by omega), (hK _ hs).2]
  refine x_l4_I (fun k a b c e ρ' θ' => ∃ i, a = nI t ∧ b = nI q ∧ c = nI (g_tog N C (10 * t + q)) ∧ e = nI i ∧ i + k = g_tog N C (10 * t + q) ∧ θ = θ' ∧ (∀ z, z ≠ 13 → z ≠ 14 → ρ' z = ρ z) ∧ ∀ i', i' < i → ρ' 13 i' = nI (g_mem N C (10 * t + q) i') ∧ ρ' 14 i' = nI (g_pl N C (10 * t + q) (g_mem N C (10 * t + q) i'))) ?_ (g_tog N C (10 * t + q)) ⟨0, rfl, rfl, rfl, rfl, Nat.zero_add _, rfl, fun _ _ _ => rfl, fun i' hi' => absurd hi' (Nat.not_lt_zero _)⟩
  rintro k a b c e ρ' θ' ⟨i, rfl, rfl, rfl, rfl, hk, rfl, h1, h2⟩ K hK2
  unfold wX11_layOrder_14
  refine i_le (by omega) (by omega) (fun g => ?_) (fun hi => ?_)
  · exact h ρ' h1 (fun i' hi' => h2 i' (by omega))
  · obtain ⟨m1, m2, m3, m4, m5, m6⟩ := g_mem_at hN hW hi
    have hF' := hF.cong (h1 3 (by omega) (by omega))
    have hM' := hM.cong (h1 6 (by omega) (by omega))
    have hP' := hP.cong (h1 9 (by omega) (by omega))
    refine sM_memberAt hN hF' hM' hP' ht hq (fun n en hn1 hn => ?_) (fun hno => absurd (congrArg nI m3) (hno _ m1 m2))
    have en : i = n := (nI_eq (by omega) (by omega)).mp en
    subst en
    refine ⟨i_in (by omega) (by omega), ?_⟩
    rw [i_cl (by omega), x_up_ss]
    refine sM_mateOf hN (hM'.cong (x_up_n (by omega))) ht hq m1 ?_
    rw [g_mI_has m2, show (nI i + 1 : Int32) = nI (i + 1) from nI_add i 1]
    refine hK2 (k - 1) _ _ _ _ _ _ (by omega) ⟨i + 1, rfl, rfl, rfl, rfl, by omega, rfl, fun z z1 z2 => by rw [x_up_n z2, x_up_n z1]; exact h1 z z1 z2, fun i' hi' => ?_⟩
    rw [x_up_n (show (13 : Nat) ≠ 14 by omega), x_up_i, x_up_i]
    by_cases z : i' = i
    · subst z
      rw [if_pos rfl, if_pos rfl]
      exact ⟨rfl, rfl⟩
    · rw [if_neg z, if_neg z, x_up_n (show (14 : Nat) ≠ 13 by omega)]
      exact h2 i' (by omega)
theorem g_gap_b (hN : g_WN N) {a b : Nat} (ha : a < N 0 1) (hb : b < N 0 1) : g_gap2 N a b ≤ 60 := by
  have h1 := (hN.2.2.1 a ha).2.2.2.1
  have h2 := (hN.2.2.1 b hb).2.2.2.1
  unfold g_gap2
  omega
theorem sM_dist (hN : g_WN N) (hW : g_WC N C) (hF : m_F N ρ) {s i : Nat} (hO : m_O N C s ρ) (h0 : 0 < i) (hi : i < g_tog N C s) {Q : Int32 → x_S → x_L → Prop} (h : Q (nI (g_gap2 N (g_mem N C s i) (g_mem N C s (i - 1)))) ρ θ) : wX11_distanceBehind (nI i) ρ θ Q := by
  have htb := g_tog_b (C := C) hN s
  have m1 := (g_mem_at hN hW hi).1
  have m2 := (g_mem_at hN hW (show i - 1 < g_tog N C s by omega)).1
  have g1 := (hN.2.2.1 _ m1).2.2.2.1
  have g2 := (hN.2.2.1 _ m2).2.2.2.1
  unfold wX11_distanceBehind
  refine ⟨i_in (by omega) (by omega), ?_⟩
  rw [i_cl (by omega), (hO i hi).1]
  refine sM_gap hN hF m1 ?_
  rw [show (nI i - 1 : Int32) = nI (i - 1) from nI_sub (b := 1) (by omega), i_cl (by omega), (hO (i - 1) (by omega)).1]
  refine ⟨i_in (by omega) (by omega), sM_gap hN hF m2 (sM_max (by omega) (by omega) h)⟩
theorem sM_share (hN : g_WN N) (hW : g_WC N C) (hF : m_F N ρ) {s i : Nat} (hO : m_O N C s ρ) (h0 : 0 < i) (hi : i < g_tog N C s) {Q : Int32 → x_S → x_L → Prop} (h : Q (nI (g_share (g_gap2 N (g_mem N C s i) (g_mem N C s (i - 1))))) ρ θ) : wX11_shareOf (nI i) ρ θ Q := by
  have m1 := (g_mem_at hN hW hi).1
  have m2 := (g_mem_at hN hW (show i - 1 < g_tog N C s by omega)).1
  have hb := g_gap_b hN m1 m2
  unfold wX11_shareOf
  refine sM_dist hN hW hF hO h0 hi ?_
  rcases e_share _ (show g_gap2 N (g_mem N C s i) (g_mem N C s (i - 1)) < 61 by omega) with ⟨-, e⟩ | ⟨-, e, e2⟩
  · rw [e]
    have := g_share_b (g_gap2 N (g_mem N C s i) (g_mem N C s (i - 1)))
    refine sM_max (a := 0) (by omega) (by omega) ?_
    rw [Nat.max_eq_right (Nat.zero_le _)]
    exact h
  · rw [e2] at h
    unfold wX11_max wX11_max_10
    exact ⟨fun z => absurd z e, fun _ => h⟩
theorem e_sav {b x : Nat} (hb : b ≤ 153000) (hx : x ≤ 150) : ((nI b * nI x) / 1000 : Int32) = nI (b * x / 1000) := by
  have : b * x ≤ 153000 * 150 := Nat.mul_le_mul hb hx
  rw [nI_mul]
  exact nI_div (b := 1000) (by omega) (by omega) (by omega)
theorem sM_saving (hN : g_WN N) (hW : g_WC N C) (hF : m_F N ρ) (hC : m_C N C 0 ρ) {s i : Nat} (hO : m_O N C s ρ) (hi : i < g_tog N C s) {Q : Int32 → x_S → x_L → Prop} (h : Q (nI (g_sav N C (g_mst N C s i))) ρ θ) : wX11_savingOf (nI i) (nI (g_tog N C s)) ρ θ Q := by
  have htb := g_tog_b (C := C) hN s
  obtain ⟨m1, m2, m3, m4, m5, m6⟩ := g_mem_at hN hW hi
  have hbb := g_base_b hN hW m4
  have ec := g_mem_cls m6
  unfold wX11_savingOf wX11_savingOf_55
  refine ⟨i_in (by omega) (by omega), ?_⟩
  rw [i_cl (by omega), (hO i hi).1, (hO i hi).2]
  refine sM_base hN hW hF hC m1 (g_has_iff.mp m2) ?_
  unfold g_sav at h
  rw [m3, g_tog_cls m6] at h
  refine i_le (b := 0) (by omega) (by omega) (fun g => ?_) (fun g => ?_)
  · rw [if_pos (by omega)] at h
    refine i_le (b := 1) (by omega) (by omega) (fun g2 => ?_) (fun g2 => ?_)
    · rw [if_neg (by omega)] at h
      exact h
    · rw [if_pos g2, (ec 1).1, (ec 0).1] at h
      refine sM_share (i := 1) hN hW hF hO (by omega) g2 ?_
      have := g_share_b (g_gap2 N (g_mem N C s 1) (g_mem N C s 0))
      rw [show g_mem N C s (1 - 1) = g_mem N C s 0 from rfl, show (nI (g_share (g_gap2 N (g_mem N C s 1) (g_mem N C s 0))) / 4 : Int32) = nI (g_share (g_gap2 N (g_mem N C s 1) (g_mem N C s 0)) / 4) from nI_div (b := 4) (by omega) (by omega) (by omega)]
      rw [show 10 * g_mem N C s i + g_pl N C s (g_mem N C s i) = g_mst N C s i from rfl, e_sav hbb (by omega)]
      exact h
  · rw [if_neg (by omega)] at h
    refine sM_share hN hW hF hO g hi ?_
    unfold g_dst at h
    rw [m3, if_neg (by omega), m5, (ec _).1] at h
    rw [show 10 * g_mem N C s i + g_pl N C s (g_mem N C s i) = g_mst N C s i from rfl, e_sav hbb (g_share_b _)]
    exact h
theorem sM_closing (hN : g_WN N) (hW : g_WC N C) (hF : m_F N ρ) {s i : Nat} (hO : m_O N C s ρ) (hi : i < g_tog N C s) {Q : Int32 → x_S → x_L → Prop} (h : Q (if g_clo N C (g_mst N C s i) = true then 1 else 0) ρ θ) : wX11_isClosing (nI i) ρ θ Q := by
  have htb := g_tog_b (C := C) hN s
  obtain ⟨m1, m2, m3, m4, m5, m6⟩ := g_mem_at hN hW hi
  have ec := g_mem_cls m6
  have clo : g_clo N C (g_mst N C s i) = true ↔ (i ≠ 0 ∧ g_nxt N (g_mst N C s i) ≠ 0 ∧ g_nxt N (g_mst N C s (i - 1)) ≠ g_nxt N (g_mst N C s i) ∧ ∃ k, k < i - 1 ∧ g_nxt N (g_mst N C s k) = g_nxt N (g_mst N C s i)) := by
    unfold g_clo
    rw [decide_eq_true_iff, m3, (ec _).2]
    constructor
    · rintro ⟨a, b, c, k, d, e⟩
      exact ⟨a, b, c, k, d, by rw [(ec k).2] at e; exact e⟩
    · rintro ⟨a, b, c, k, d, e⟩
      exact ⟨a, b, c, k, d, by rw [(ec k).2]; exact e⟩
  have no : (¬ (i ≠ 0 ∧ g_nxt N (g_mst N C s i) ≠ 0 ∧ g_nxt N (g_mst N C s (i - 1)) ≠ g_nxt N (g_mst N C s i) ∧ ∃ k, k < i - 1 ∧ g_nxt N (g_mst N C s k) = g_nxt N (g_mst N C s i))) → Q 0 ρ θ := fun g => by
    rw [if_neg (fun z => g (clo.mp z))] at h
    exact h
  have nb : ∀ j, j < g_tog N C s → g_nxt N (g_mst N C s j) < 1000 := fun j hj => by
    have := g_nxt_b hN (g_mem_at hN hW hj).2.2.2.1
    omega
  unfold wX11_isClosing wX11_isClosing_50
  refine ⟨i_in (by omega) (by omega), ?_⟩
  rw [i_cl (by omega), (hO i hi).1, (hO i hi).2]
  refine sM_next hN hF m1 (g_has_iff.mp m2) ?_
  rw [show 10 * g_mem N C s i + g_pl N C s (g_mem N C s i) = g_mst N C s i from rfl]
  refine i_eq (b := 0) (by omega) (by omega) (fun g => no (fun z => z.1 g)) (fun g => ?_)
  refine ⟨fun g2 => no (fun z => z.2.1 ((g_nI_m1 (nb i hi)).mp g2)), fun g2 => ?_⟩
  have g2' : g_nxt N (g_mst N C s i) ≠ 0 := fun z => g2 ((g_nI_m1 (nb i hi)).mpr z)
  obtain ⟨p1, p2, p3, p4, p5, p6⟩ := g_mem_at hN hW (show i - 1 < g_tog N C s by omega)
  rw [show (nI i - 1 : Int32) = nI (i - 1) from nI_sub (b := 1) (by omega), i_cl (by omega), (hO (i - 1) (by omega)).1, (hO (i - 1) (by omega)).2]
  refine ⟨i_in (by omega) (by omega), sM_next hN hF p1 (g_has_iff.mp p2) ?_⟩
  rw [show 10 * g_mem N C s (i - 1) + g_pl N C s (g_mem N C s (i - 1)) = g_mst N C s (i - 1) from rfl]
  refine ⟨fun g3 => ?_, fun g3 => no (fun z => z.2.2.1 ((g_nI_eq (nb _ (by omega)) (nb i hi)).mp g3))⟩
  have g3' : g_nxt N (g_mst N C s (i - 1)) ≠ g_nxt N (g_mst N C s i) := fun z => g3 (by rw [z])
  refine x_l4_I (fun k a b c e ρ' θ' => ∃ j, a = nI i ∧ b = g_nI (g_nxt N (g_mst N C s i)) ∧ e = nI j ∧ j + k = i - 1 ∧ ρ = ρ' ∧ θ = θ' ∧ ((c = 1 ∧ ∃ k, k < j ∧ g_nxt N (g_mst N C s k) = g_nxt N (g_mst N C s i)) ∨ (c = 0 ∧ ∀ k, k < j → g_nxt N (g_mst N C s k) ≠ g_nxt N (g_mst N C s i)))) ?_ (i - 1) ⟨0, rfl, rfl, rfl, Nat.zero_add _, rfl, rfl, Or.inr ⟨rfl, fun k hk => absurd hk (Nat.not_lt_zero _)⟩⟩
  rintro k a b c e ρ' θ' ⟨j, rfl, rfl, rfl, hk, rfl, rfl, hI⟩ K hK
  unfold wX11_isClosing_57
  rw [show (nI i - 1 : Int32) = nI (i - 1) from nI_sub (b := 1) (by omega)]
  refine i_le (by omega) (by omega) (fun g4 => ?_) (fun g4 => ?_)
  · have ej : j = i - 1 := by omega
    subst ej
    rcases hI with ⟨rfl, hx⟩ | ⟨rfl, hx⟩
    · rw [if_pos (clo.mpr ⟨g, g2', g3', hx⟩)] at h
      exact ⟨Or.inr rfl, h⟩
    · exact ⟨Or.inl rfl, no (fun z => by
        obtain ⟨k, z1, z2⟩ := z.2.2.2
        exact hx k z1 z2)⟩
  · obtain ⟨q1, q2, q3, q4, q5, q6⟩ := g_mem_at hN hW (show j < g_tog N C s by omega)
    refine ⟨i_in (by omega) (by omega), ?_⟩
    rw [i_cl (by omega), (hO j (by omega)).1, (hO j (by omega)).2]
    refine sM_next hN hF q1 (g_has_iff.mp q2) ?_
    rw [show 10 * g_mem N C s j + g_pl N C s (g_mem N C s j) = g_mst N C s j from rfl]
    unfold wX11_isClosing_93
    rw [show (nI j + 1 : Int32) = nI (j + 1) from nI_add j 1]
    refine ⟨fun g5 => ?_, fun g5 => ?_⟩
    · have g5' : g_nxt N (g_mst N C s j) ≠ g_nxt N (g_mst N C s i) := fun z => g5 (by rw [z])
      refine hK (k - 1) _ _ _ _ _ _ (by omega) ⟨j + 1, rfl, rfl, rfl, by omega, rfl, rfl, ?_⟩
      rcases hI with ⟨rfl, k, z1, z2⟩ | ⟨rfl, hx⟩
      · exact Or.inl ⟨by decide, k, by omega, z2⟩
      · refine Or.inr ⟨by decide, fun k hk => ?_⟩
        by_cases z : k = j
        · rw [z]
          exact g5'
        · exact hx k (by omega)
    · have g5' := (g_nI_eq (nb j (by omega)) (nb i hi)).mp g5
      refine hK (k - 1) _ _ _ _ _ _ (by omega) ⟨j + 1, rfl, rfl, rfl, by omega, rfl, rfl, Or.inl ⟨?_, j, by omega, g5'⟩⟩
      rcases hI with ⟨rfl, -⟩ | ⟨rfl, -⟩
      · decide
      · decide
/-- what is laid of a stop's distance, saving, closing up -/
def m_S (N C : g_F) (x : Nat) (ρ : x_S) : Prop := ρ 10 x = nI (g_dst N C x) ∧ ρ 11 x = nI (g_sav N C x) ∧ ρ 12 x = if g_clo N C x = true then 1 else 0
theorem sM_layPlatoon (hN : g_WN N) (hW : g_WC N C) (hF : m_F N ρ) (hC : m_C N C 0 ρ) (hM : m_M N C ρ) (hK : m_K N C ρ) (hP : m_P N C ρ) {t q : Nat} (ht : t < N 0 1) (hq : q < N 8 t) {Q : x_S → x_L → Prop}
    (h : ∀ ρ' : x_S, (∀ z, z ≠ 10 → z ≠ 11 → z ≠ 12 → z ≠ 13 → z ≠ 14 → ρ' z = ρ z) → (∀ i, i < g_tog N C (10 * t + q) → m_S N C (g_mst N C (10 * t + q) i) ρ') → (∀ x, (∀ i, i < g_tog N C (10 * t + q) → x ≠ g_mst N C (10 * t + q) i) → ρ' 10 x = ρ 10 x ∧ ρ' 11 x = ρ 11 x ∧ ρ' 12 x = ρ 12 x) → Q ρ' θ) : wX11_layPlatoon (nI t) (nI q) ρ θ Q := by
  have htb := g_tog_b (C := C) hN (10 * t + q)
  unfold wX11_layPlatoon
  refine sM_layOrder hN hW hF hM hK hP ht hq (fun ρ1 f1 hO => ?_)
  refine x_l2_I (fun k a e ρ' θ' => ∃ i, a = nI (g_tog N C (10 * t + q)) ∧ e = nI i ∧ i + k = g_tog N C (10 * t + q) ∧ θ = θ' ∧ (∀ z, z ≠ 10 → z ≠ 11 → z ≠ 12 → z ≠ 13 → z ≠ 14 → ρ' z = ρ z) ∧ m_O N C (10 * t + q) ρ' ∧ (∀ i', i' < i → m_S N C (g_mst N C (10 * t + q) i') ρ') ∧ (∀ x, (∀ i', i' < i → x ≠ g_mst N C (10 * t + q) i') → ρ' 10 x = ρ 10 x ∧ ρ' 11 x = ρ 11 x ∧ ρ' 12 x = ρ 12 x)) ?_ (g_tog N C (10 * t + q)) ⟨0, rfl, rfl, Nat.zero_add _, rfl, fun z _ _ _ z1 z2 => f1 z z1 z2, hO, fun i' hi' => absurd hi' (Nat.not_lt_zero _), fun x _ => ⟨congrFun (f1 10 (by omega) (by omega)) x, congrFun (f1 11 (by omega) (by omega)) x, congrFun (f1 12 (by omega) (by omega)) x⟩⟩
  clear hO f1
  rintro k a e ρ' θ' ⟨i, rfl, rfl, hk, rfl, h1, hO, h2, h3⟩ K hK2
  unfold wX11_layPlatoon_10
  refine i_le (by omega) (by omega) (fun g => ?_) (fun hi => ?_)
  · have ei : i = g_tog N C (10 * t + q) := by omega
    subst ei
    exact h ρ' h1 h2 h3
  · obtain ⟨m1, m2, m3, m4, m5, m6⟩ := g_mem_at hN hW hi
    have ec := g_mem_cls m6
    have hlt := g_is_lt hN m4
    have ems : 10 * g_mem N C (10 * t + q) i + g_pl N C (10 * t + q) (g_mem N C (10 * t + q) i) = g_mst N C (10 * t + q) i := rfl
    refine ⟨i_in (by omega) (by omega), ?_⟩
    rw [i_cl (by omega), (hO i hi).1, (hO i hi).2]
    refine sM_spot ?_
    rw [ems]
    have hF' := hF.cong (h1 3 (by omega) (by omega) (by omega) (by omega) (by omega))
    have hC' := hC.cong (h1 1 (by omega) (by omega) (by omega) (by omega) (by omega))
    have go : wX11_layPlatoon_56 K Q (nI (g_tog N C (10 * t + q))) (nI i) (nI (g_mst N C (10 * t + q) i)) (nI (g_mst N C (10 * t + q) i)) (nI (g_dst N C (g_mst N C (10 * t + q) i))) ρ' θ := by
      unfold wX11_layPlatoon_56
      refine ⟨i_in hlt (by omega), ?_⟩
      rw [i_cl (by omega)]
      refine sM_saving hN hW (hF'.cong (x_up_n (by omega))) (hC'.cong (x_up_n (by omega))) (hO.cong (x_up_n (by omega)) (x_up_n (by omega))) hi ?_
      refine ⟨i_in hlt (by omega), ?_⟩
      refine sM_closing hN hW (hF'.cong (by rw [x_up_n (by omega), x_up_n (by omega)])) (hO.cong (by rw [x_up_n (by omega), x_up_n (by omega)]) (by rw [x_up_n (by omega), x_up_n (by omega)])) hi ?_
      rw [show (nI i + 1 : Int32) = nI (i + 1) from nI_add i 1]
      have ev : vp_nar .boolean (if g_clo N C (g_mst N C (10 * t + q) i) = true then 1 else 0) = if g_clo N C (g_mst N C (10 * t + q) i) = true then 1 else 0 := by
        split <;> rfl
      rw [ev]
      refine hK2 (k - 1) _ _ _ _ (by omega) ⟨i + 1, rfl, rfl, by omega, rfl, fun z z1 z2 z3 z4 z5 => by rw [x_up_n z3, x_up_n z2, x_up_n z1]; exact h1 z z1 z2 z3 z4 z5, hO.cong (by rw [x_up_n (by omega), x_up_n (by omega), x_up_n (by omega)]) (by rw [x_up_n (by omega), x_up_n (by omega), x_up_n (by omega)]), fun i' hi' => ?_, fun x hx => ?_⟩
      · unfold m_S
        rw [x_up_n (show (10 : Nat) ≠ 12 by omega), x_up_n (show (10 : Nat) ≠ 11 by omega), x_up_n (show (11 : Nat) ≠ 12 by omega), x_up_i, x_up_i, x_up_i, x_up_n (show (12 : Nat) ≠ 11 by omega), x_up_n (show (12 : Nat) ≠ 10 by omega), x_up_n (show (11 : Nat) ≠ 10 by omega)]
        by_cases z : i' = i
        · subst z
          rw [if_pos rfl, if_pos rfl, if_pos rfl]
          exact ⟨rfl, rfl, rfl⟩
        · have hne : g_mst N C (10 * t + q) i' ≠ g_mst N C (10 * t + q) i := fun e => z (by
            rw [← m3, ← e]
            exact ((g_mem_at hN hW (show i' < g_tog N C (10 * t + q) by omega)).2.2.1).symm)
          rw [if_neg hne, if_neg hne, if_neg hne]
          exact h2 i' (by omega)
      · rw [x_up_n (show (10 : Nat) ≠ 12 by omega), x_up_n (show (10 : Nat) ≠ 11 by omega), x_up_n (show (11 : Nat) ≠ 12 by omega), x_up_i, x_up_i, x_up_i, x_up_n (show (12 : Nat) ≠ 11 by omega), x_up_n (show (12 : Nat) ≠ 10 by omega), x_up_n (show (11 : Nat) ≠ 10 by omega)]
        have hne := hx i (by omega)
        rw [if_neg hne, if_neg hne, if_neg hne]
        exact h3 x (fun i' hi' => hx i' (by omega))
    refine i_ne (b := 0) (by omega) (by omega) (fun g => ?_) (fun g => ?_)
    · refine sM_dist hN hW hF' hO (by omega) hi ?_
      unfold g_dst at go
      rw [m3, if_neg (by omega), m5, (ec _).1] at go
      exact go
    · unfold g_dst at go
      rw [m3, if_pos g] at go
      exact go
def m_A (N C : g_F) (n : Nat) (ρ : x_S) : Prop := ∀ s, g_is N s → g_mst N C s 0 < n → m_S N C s ρ
/-- all is laid -/
def m_L (N C : g_F) (ρ : x_S) : Prop := m_T N C ρ ∧ m_M N C ρ ∧ m_K N C ρ ∧ m_P N C ρ ∧ ∀ s, g_is N s → m_S N C s ρ
theorem g_tog_pos (hN : g_WN N) (hW : g_WC N C) {s : Nat} (hs : g_is N s) : 0 < g_tog N C s := Nat.lt_of_le_of_lt (Nat.zero_le _) (g_pos_lt hN hW hs)
theorem m_A.cong {n : Nat} {ρ' : x_S} (h : m_A N C n ρ) (e1 : ρ' 10 = ρ 10) (e2 : ρ' 11 = ρ 11) (e3 : ρ' 12 = ρ 12) : m_A N C n ρ' := by
  intro s hs hn
  have := h s hs hn
  unfold m_S at this ⊢
  rw [e1, e2, e3]
  exact this
set_option maxHeartbeats 1000000 in
theorem sM_lay (hN : g_WN N) (hW : g_WC N C) (hF : m_F N ρ) (hC : m_C N C 0 ρ) {Q : x_S → x_L → Prop} (h : ∀ ρ' : x_S, (∀ z, z < 4 ∨ 14 < z → ρ' z = ρ z) → m_L N C ρ' → Q ρ' θ) : wX11_lay ρ θ Q := by
  have hb := hN.1.2
  unfold wX11_lay
  refine x_l1_I (fun k a ρ' θ' => ∃ t, a = nI t ∧ t + k = N 0 1 ∧ θ = θ' ∧ (∀ z, z < 4 ∨ 14 < z → ρ' z = ρ z) ∧ ∀ s, g_is N s → s / 10 < t → ρ' 4 s = nI (g_en N C s) ∧ ρ' 5 s = nI (g_lv N C s)) ?_ (N 0 1) ⟨0, rfl, Nat.zero_add _, rfl, fun _ _ => rfl, fun s _ hs => absurd hs (Nat.not_lt_zero _)⟩
  rintro k a ρ' θ' ⟨t, rfl, hk, rfl, h1, h2⟩ K hK
  have hnt : ρ' 3 1 = nI (N 0 1) := by rw [h1 3 (by omega)]; exact hF.1.2
  have hF1 := hF.cong (h1 3 (by omega))
  have hC1 := hC.cong (h1 1 (by omega))
  unfold wX11_lay_2
  rw [show (1 : Int32).toNatClampNeg = 1 from rfl, hnt]
  refine i_le (by omega) (by omega) (fun g => ?_) (fun ht => ?_)
  · have et : t = N 0 1 := by omega
    subst et
    have hT : m_T N C ρ' := fun s hs => h2 s hs hs.1
    clear hK h2 hnt
    refine sM_layMates hN hW hF1 hC1 hT (fun ρ2 f2 hM => ?_)
    have g1 : ∀ z, z < 4 ∨ 14 < z → ρ2 z = ρ z := fun z hz => (f2 z (by omega)).trans (h1 z hz)
    have hT2 := hT.cong (f2 4 (by omega)) (f2 5 (by omega))
    clear hT f2 h1 hF1 hC1
    -- keys
    refine g_loop2 (n := N 0 1) (m := N 8) (Bi := fun K => wX11_lay_41 K Q) (fun t q ρ' θ' => θ = θ' ∧ (∀ z, z < 4 ∨ 14 < z → ρ' z = ρ z) ∧ m_T N C ρ' ∧ m_M N C ρ' ∧ ∀ s, g_is N s → s < 10 * t + q → ρ' 8 s = nI (g_key N C s) ∧ ρ' 7 s = nI (g_tog N C s)) ?_ ?_ ?_ ?_ ?_ ⟨rfl, g1, hT2, hM, fun s _ hs => absurd hs (Nat.not_lt_zero _)⟩
    · rintro K t σ τ ht ⟨rfl, h1, -⟩ hx
      have hnt : σ 3 1 = nI (N 0 1) := by rw [h1 3 (by omega)]; exact hF.1.2
      unfold wX11_lay_29
      rw [show (1 : Int32).toNatClampNeg = 1 from rfl, hnt]
      exact i_le (by omega) (by omega) (fun g => absurd g (by omega)) (fun _ => hx)
    · rintro K σ τ ⟨rfl, h1, hT3, hM3, h4⟩
      have hnt : σ 3 1 = nI (N 0 1) := by rw [h1 3 (by omega)]; exact hF.1.2
      have hK3 : m_K N C σ := fun s hs => h4 s hs (by have := hs.1; omega)
      unfold wX11_lay_29
      rw [show (1 : Int32).toNatClampNeg = 1 from rfl, hnt]
      refine i_le (by omega) (by omega) (fun _ => ?_) (fun g => absurd g (by omega))
      clear h4 hM hT2 g1 hnt
      -- positions
      refine g_loop2 (n := N 0 1) (m := N 8) (Bi := fun K => wX11_lay_82 K Q) (fun t q ρ' θ' => θ = θ' ∧ (∀ z, z < 4 ∨ 14 < z → ρ' z = ρ z) ∧ m_T N C ρ' ∧ m_M N C ρ' ∧ m_K N C ρ' ∧ ∀ s, g_is N s → s < 10 * t + q → ρ' 9 s = nI (g_pos N C s)) ?_ ?_ ?_ ?_ ?_ ⟨rfl, h1, hT3, hM3, hK3, fun s _ hs => absurd hs (Nat.not_lt_zero _)⟩
      · rintro K t σ τ ht ⟨rfl, h1, -⟩ hx
        have hnt : σ 3 1 = nI (N 0 1) := by rw [h1 3 (by omega)]; exact hF.1.2
        unfold wX11_lay_70
        rw [show (1 : Int32).toNatClampNeg = 1 from rfl, hnt]
        exact i_le (by omega) (by omega) (fun g => absurd g (by omega)) (fun _ => hx)
      · rintro K σ τ ⟨rfl, h1, hT3, hM3, hK3, h4⟩
        have hnt : σ 3 1 = nI (N 0 1) := by rw [h1 3 (by omega)]; exact hF.1.2
        have hP3 : m_P N C σ := fun s hs => h4 s hs (by have := hs.1; omega)
        unfold wX11_lay_70
        rw [show (1 : Int32).toNatClampNeg = 1 from rfl, hnt]
        refine i_le (by omega) (by omega) (fun _ => ?_) (fun g => absurd g (by omega))
        clear h4 hnt
        -- platoons
        refine g_loop2 (n := N 0 1) (m := N 8) (Bi := fun K => wX11_lay_123 K Q) (fun t q ρ' θ' => θ = θ' ∧ (∀ z, z < 4 ∨ 14 < z → ρ' z = ρ z) ∧ m_T N C ρ' ∧ m_M N C ρ' ∧ m_K N C ρ' ∧ m_P N C ρ' ∧ m_A N C (10 * t + q) ρ') ?_ ?_ ?_ ?_ ?_ ⟨rfl, h1, hT3, hM3, hK3, hP3, fun s _ hs => absurd hs (Nat.not_lt_zero _)⟩
        · rintro K t σ τ ht ⟨rfl, h1, -⟩ hx
          have hnt : σ 3 1 = nI (N 0 1) := by rw [h1 3 (by omega)]; exact hF.1.2
          unfold wX11_lay_111
          rw [show (1 : Int32).toNatClampNeg = 1 from rfl, hnt]
          exact i_le (by omega) (by omega) (fun g => absurd g (by omega)) (fun _ => hx)
        · rintro K σ τ ⟨rfl, h1, hT3, hM3, hK3, hP3, h4⟩
          have hnt : σ 3 1 = nI (N 0 1) := by rw [h1 3 (by omega)]; exact hF.1.2
          unfold wX11_lay_111
          rw [show (1 : Int32).toNatClampNeg = 1 from rfl, hnt]
          refine i_le (by omega) (by omega) (fun _ => ?_) (fun g => absurd g (by omega))
          refine h σ h1 ⟨hT3, hM3, hK3, hP3, fun s hs => h4 s hs ?_⟩
          have := (g_mem_at hN hW (g_tog_pos hN hW hs)).2.2.2.1.1
          omega
        · rintro K K2 t q σ τ ht hq ⟨rfl, h1, hT3, hM3, hK3, hP3, h4⟩ hgo
          obtain ⟨hs, e1, e2, b1, b2, b3⟩ := g_is_of hN ht hq
          have hF3 := hF.cong (h1 3 (by omega))
          have hC3 := hC.cong (h1 1 (by omega))
          have hpb := g_pos_b (C := C) hN (10 * t + q)
          have m0 := fun s (hs : g_is N s) => g_mem_at hN hW (g_tog_pos hN hW hs)
          have h10 := (hN.2.2.1 t ht).2.2.2.2.2
          unfold wX11_lay_123
          refine sM_places hN hF3 ht ?_
          refine i_le (by omega) (by omega) (fun g => absurd g (by omega)) (fun _ => ?_)
          refine sM_spot ⟨i_in b1 (by omega), ?_⟩
          rw [i_cl (by omega), hP3 _ hs]
          unfold wX11_lay_151
          rw [show (nI q + 1 : Int32) = nI (q + 1) from nI_add q 1]
          refine i_ne (b := 0) (by omega) (by omega) (fun g => ?_) (fun g => ?_)
          · refine hgo _ _ ⟨rfl, h1, hT3, hM3, hK3, hP3, fun s hs2 hlt => h4 s hs2 ?_⟩
            apply Classical.byContradiction
            intro hn
            have e3 : g_mst N C s 0 = 10 * t + q := by omega
            have := (m0 s hs2).2.2.1
            rw [e3] at this
            exact g this
          · refine sM_layPlatoon hN hW hF3 hC3 hM3 hK3 hP3 ht hq (fun ρ2 f1 f2 f3 => ?_)
            refine hgo _ _ ⟨rfl, fun z hz => (f1 z (by omega) (by omega) (by omega) (by omega) (by omega)).trans (h1 z hz), hT3.cong (f1 4 (by omega) (by omega) (by omega) (by omega) (by omega)) (f1 5 (by omega) (by omega) (by omega) (by omega) (by omega)), hM3.cong (f1 6 (by omega) (by omega) (by omega) (by omega) (by omega)), hK3.cong (f1 8 (by omega) (by omega) (by omega) (by omega) (by omega)) (f1 7 (by omega) (by omega) (by omega) (by omega) (by omega)), hP3.cong (f1 9 (by omega) (by omega) (by omega) (by omega) (by omega)), fun s hs2 hlt => ?_⟩
            have self : g_mst N C (10 * t + q) 0 = 10 * t + q := by
              have := (g_mem_self hN hW hs).2
              rw [g] at this
              exact this
            by_cases hz : g_mst N C s 0 = 10 * t + q
            · have hm := (m0 s hs2).2.2.2.2.2
              rw [hz] at hm
              have hm2 := g_mt_symm hm
              have e4 : g_mst N C (10 * t + q) (g_pos N C s) = s := by
                rw [← (g_mem_cls hm2 _).2]
                exact (g_mem_self hN hW hs2).2
              have hl := g_pos_lt hN hW hs2
              rw [g_tog_cls hm2] at hl
              have := f2 _ hl
              rw [e4] at this
              exact this
            · have h5 := h4 s hs2 (by omega)
              have h6 := f3 s (fun i hi e => hz (by
                have hm := (g_mem_at hN hW hi).2.2.2.2.2
                rw [← e] at hm
                rw [(g_mem_cls hm 0).2]
                exact self))
              unfold m_S at h5 ⊢
              rw [h6.1, h6.2.1, h6.2.2]
              exact h5
        · rintro K K2 t σ τ ht ⟨rfl, h1, -⟩ hx
          have h10 := (hN.2.2.1 t ht).2.2.2.2.2
          unfold wX11_lay_123
          refine sM_places hN (hF.cong (h1 3 (by omega))) ht ?_
          rw [show (nI t + 1 : Int32) = nI (t + 1) from nI_add t 1]
          exact i_le (by omega) (by omega) (fun _ => hx) (fun g => absurd g (by omega))
        · rintro t σ τ ht ⟨rfl, h1, hT3, hM3, hK3, hP3, h4⟩
          refine ⟨rfl, h1, hT3, hM3, hK3, hP3, fun s hs hlt => h4 s hs ?_⟩
          have hi := (g_mem_at hN hW (g_tog_pos hN hW hs)).2.2.2.1
          have e1 : g_mst N C s 0 / 10 = t → g_mst N C s 0 % 10 < N 8 t := fun e => by rw [← e]; exact hi.2
          omega
      · rintro K K2 t q σ τ ht hq ⟨rfl, h1, hT3, hM3, hK3, h4⟩ hgo
        obtain ⟨hs, e1, e2, b1, b2, b3⟩ := g_is_of hN ht hq
        have hF3 := hF.cong (h1 3 (by omega))
        have h10 := (hN.2.2.1 t ht).2.2.2.2.2
        unfold wX11_lay_82
        refine sM_places hN hF3 ht ?_
        refine i_le (by omega) (by omega) (fun g => absurd g (by omega)) (fun _ => ?_)
        refine sM_layPosition hN hF3 hM3 hK3 ht hq ?_
        rw [show (nI q + 1 : Int32) = nI (q + 1) from nI_add q 1]
        refine hgo _ _ ⟨rfl, fun z hz => (x_up_n (by omega)).trans (h1 z hz), hT3.cong (x_up_n (by omega)) (x_up_n (by omega)), hM3.cong (x_up_n (by omega)), hK3.cong (x_up_n (by omega)) (x_up_n (by omega)), fun s hs2 hlt => ?_⟩
        rw [x_up_i]
        by_cases z : s = 10 * t + q
        · subst z
          rw [if_pos rfl]
        · rw [if_neg z]
          exact h4 s hs2 (by omega)
      · rintro K K2 t σ τ ht ⟨rfl, h1, -⟩ hx
        have h10 := (hN.2.2.1 t ht).2.2.2.2.2
        unfold wX11_lay_82
        refine sM_places hN (hF.cong (h1 3 (by omega))) ht ?_
        rw [show (nI t + 1 : Int32) = nI (t + 1) from nI_add t 1]
        exact i_le (by omega) (by omega) (fun _ => hx) (fun g => absurd g (by omega))
      · rintro t σ τ ht ⟨rfl, h1, hT3, hM3, hK3, h4⟩
        refine ⟨rfl, h1, hT3, hM3, hK3, fun s hs hlt => h4 s hs ?_⟩
        have e1 : s / 10 = t → s % 10 < N 8 t := fun e => by rw [← e]; exact hs.2
        omega
    · rintro K K2 t q σ τ ht hq ⟨rfl, h1, hT3, hM3, h4⟩ hgo
      obtain ⟨hs, e1, e2, b1, b2, b3⟩ := g_is_of hN ht hq
      have hF3 := hF.cong (h1 3 (by omega))
      have h10 := (hN.2.2.1 t ht).2.2.2.2.2
      unfold wX11_lay_41
      refine sM_places hN hF3 ht ?_
      refine i_le (by omega) (by omega) (fun g => absurd g (by omega)) (fun _ => ?_)
      refine sM_layKey hN hF3 hM3 ht hq ?_
      rw [show (nI q + 1 : Int32) = nI (q + 1) from nI_add q 1]
      refine hgo _ _ ⟨rfl, fun z hz => ((x_up_n (by omega)).trans (x_up_n (by omega))).trans (h1 z hz), hT3.cong ((x_up_n (by omega)).trans (x_up_n (by omega))) ((x_up_n (by omega)).trans (x_up_n (by omega))), hM3.cong ((x_up_n (by omega)).trans (x_up_n (by omega))), fun s hs2 hlt => ?_⟩
      rw [x_up_n (show (8 : Nat) ≠ 7 by omega), x_up_i, x_up_i, x_up_n (show (7 : Nat) ≠ 8 by omega)]
      by_cases z : s = 10 * t + q
      · subst z
        rw [if_pos rfl, if_pos rfl]
        exact ⟨rfl, rfl⟩
      · rw [if_neg z, if_neg z]
        exact h4 s hs2 (by omega)
    · rintro K K2 t σ τ ht ⟨rfl, h1, -⟩ hx
      have h10 := (hN.2.2.1 t ht).2.2.2.2.2
      unfold wX11_lay_41
      refine sM_places hN (hF.cong (h1 3 (by omega))) ht ?_
      rw [show (nI t + 1 : Int32) = nI (t + 1) from nI_add t 1]
      exact i_le (by omega) (by omega) (fun _ => hx) (fun g => absurd g (by omega))
    · rintro t σ τ ht ⟨rfl, h1, hT3, hM3, h4⟩
      refine ⟨rfl, h1, hT3, hM3, fun s hs hlt => h4 s hs ?_⟩
      have e1 : s / 10 = t → s % 10 < N 8 t := fun e => by rw [← e]; exact hs.2
      omega
  · refine sM_layTimes hN hW hF1 hC1 ht (fun ρ2 f1 f2 f3 => ?_)
    rw [show (nI t + 1 : Int32) = nI (t + 1) from nI_add t 1]
    refine hK (k - 1) _ _ _ (by omega) ⟨t + 1, rfl, by omega, rfl, fun z hz => (f1 z (by omega) (by omega)).trans (h1 z hz), fun s hs hlt => ?_⟩
    by_cases z : s / 10 = t
    · have := f2 (s % 10) (by rw [← z]; exact hs.2)
      rw [show 10 * t + s % 10 = s by omega] at this
      exact this
    · rw [(f3 s z).1, (f3 s z).2]
      exact h2 s hs (by omega)
end MP
