section ST
variable {σ ρ : x_S} {τ θ : x_L} {d st : Nat → Nat} {m : Nat}
theorem p_gr_s {x k : Nat} (h : ¬ x ≤ d (k + 1)) : p_gr d x (k + 1) = p_gr d x k := by
  rw [p_gr, if_neg h]
theorem p_gr_t {x k : Nat} (h : x ≤ d (k + 1)) : p_gr d x (k + 1) = k + 1 := by
  rw [p_gr, if_pos h]
theorem p_rs_le : ∀ n, p_rs d n ≤ n
  | 0 => Nat.le_refl _
  | n + 1 => by
    have := p_rs_le n
    rw [p_rs]
    split <;> omega
theorem p_rs_ok : ∀ n, p_rs d n ≠ 0 → d (p_rs d n - 1) ≤ d (p_rs d n)
  | 0, h => absurd rfl h
  | n + 1, h => by
    rw [p_rs] at h ⊢
    by_cases c : d n ≤ d (n + 1)
    · rw [if_pos c, Nat.add_sub_cancel]
      exact c
    · rw [if_neg c] at h ⊢
      exact p_rs_ok n h
theorem p_gr_in {i : Nat} (hi : d i ≤ d (i + 1)) : ∀ k, i + 1 ≤ k → i + 1 ≤ p_gr d (d i) k ∧ p_gr d (d i) k ≤ k
  | 0, h => absurd h (by omega)
  | k + 1, h => by
    by_cases c : d i ≤ d (k + 1)
    · rw [p_gr_t c]
      omega
    · have : k ≠ i := fun e => c (by rw [e]; exact hi)
      have := p_gr_in hi k (by omega)
      rw [p_gr_s c]
      omega
theorem sX_swap {a c : Nat} {Q : x_S → x_L → Prop} (ha : a < 6) (hc : c < 6) (h : Q (x_up (x_up σ 61 a (σ 61 c)) 61 c (σ 61 a)) τ) : wX0_swap (nI a) (nI c) σ τ Q := by
  unfold wX0_swap
  rw [i_cl (by omega), i_cl (by omega)]
  exact ⟨i_in ha (by omega), i_in hc (by omega), h⟩
theorem sM_swap {a c : Nat} {Q : x_S → x_L → Prop} (ha : a < 12) (hc : c < 12) (h : Q (x_up (x_up ρ 17 a (ρ 17 c)) 17 c (ρ 17 a)) θ) : wX11_swapTurns (nI a) (nI c) ρ θ Q := by
  unfold wX11_swapTurns
  rw [i_cl (by omega), i_cl (by omega)]
  exact ⟨i_in ha (by omega), i_in hc (by omega), h⟩
theorem e_m2 {m : Nat} (hm : m < 100000) : (nI (m + 1) - 2 : Int32) = nI m - 1 := by
  apply Int32.toInt_inj.mp
  rw [show (2 : Int32) = nI 2 from rfl, show (1 : Int32) = nI 1 from rfl, e_dif (by omega) (by omega), e_dif (by omega) (by omega)]
  omega
theorem i_dn0 {k : Nat} {P R : Prop} (hk : k < 1000000) (h1 : k = 0 → P) (h2 : 0 < k → R) : (nI k - 1 < 0 → P) ∧ (¬ nI k - 1 < 0 → R) := by
  have := i_dn (a := 0) (k := k) (P := P) (R := R) (by omega) h1 h2
  rw [Nat.zero_add] at this
  exact this
theorem i_dn1 {k : Nat} {P R : Prop} (hk : k < 1000000) (h1 : 0 < k → P) (h2 : k = 0 → R) : (0 ≤ nI k - 1 → P) ∧ (¬ 0 ≤ nI k - 1 → R) := by
  have e : (0 ≤ nI k - 1) ↔ 0 < k := by
    rw [Int32.le_iff_toInt_le, show (1 : Int32) = nI 1 from rfl, e_dif (by omega) (by omega), show (0 : Int32).toInt = 0 from by decide]
    omega
  exact ⟨fun g => h1 (e.mp g), fun g => h2 (Nat.eq_zero_of_not_pos (fun z => g (e.mpr z)))⟩
theorem sX_stepOn (h1m : 1 ≤ m) (hm6 : m ≤ 6) (h60 : σ 60 2 = nI m) (hst : ∀ x y, x < m → y < m → (st x ≤ st y ↔ x ≤ y)) (hsb : ∀ x, x < m → st x < 120) (hd : ∀ j, j < m → d j < m) (hc : ∀ j, j < m → σ 61 j = nI (st (d j))) {Q : Int32 → x_S → x_L → Prop} (h1 : p_rs d (m - 1) ≠ 0 → ∀ σ' : x_S, (∀ z, z ≠ 61 → σ' z = σ z) → (∀ j, j < m → σ' 61 j = nI (st (p_nx d m j))) → Q 1 σ' τ) (h0 : p_rs d (m - 1) = 0 → Q 0 σ τ) : wX0_stepOn σ τ Q := by
  have le : ∀ a c, a < m → c < m → (d a ≤ d c ↔ st (d a) ≤ st (d c)) := fun a c ha hc2 => (hst _ _ (hd a ha) (hd c hc2)).symm
  have sb : ∀ a, a < m → st (d a) < 120 := fun a ha => hsb _ (hd a ha)
  unfold wX0_stepOn
  rw [h60, show (nI m - 2 : Int32) = nI (m - 1) - 1 from by
    have := e_m2 (m := m - 1) (by omega)
    rw [show m - 1 + 1 = m by omega] at this
    exact this]
  refine x_l1_I (fun k c0 σ' τ' => k + 1 ≤ m ∧ c0 = nI k - 1 ∧ p_rs d k = p_rs d (m - 1) ∧ σ = σ' ∧ τ = τ') ?_ (m - 1) ⟨by omega, rfl, rfl, rfl, rfl⟩
  rintro k c0 σ' τ' ⟨hk, rfl, hr, rfl, rfl⟩ K hK
  unfold wX0_stepOn_7
  refine i_dn0 (by omega) (fun g => ?_) (fun g => ?_)
  · subst g
    unfold wX0_stepOn_34
    refine ⟨fun y => absurd y (by decide), fun _ => h0 hr.symm⟩
  · obtain ⟨i, rfl⟩ : ∃ i, k = i + 1 := ⟨k - 1, by omega⟩
    have ei : (nI (i + 1) - 1 : Int32) = nI i := nI_sub (a := i + 1) (b := 1) (by omega)
    rw [ei, show (nI i + 1 : Int32) = nI (i + 1) from nI_add i 1, i_cl (by omega), i_cl (by omega), hc i (by omega), hc (i + 1) (by omega)]
    have b1 := sb i (by omega)
    have b2 := sb (i + 1) (by omega)
    refine ⟨i_in (by omega) (by omega), i_in (by omega) (by omega), i_le (by omega) (by omega) (fun y => ?_) (fun y => ?_)⟩
    · have y' : d i ≤ d (i + 1) := (le i (i + 1) (by omega) (by omega)).mpr y
      rw [p_rs, if_pos y'] at hr
      have hr1 : p_rs d (m - 1) - 1 = i := by omega
      unfold wX0_stepOn_34
      rw [h60]
      refine ⟨fun _ => ?_, fun z => absurd (nI_pos' (by omega)) z⟩
      have eN : ∀ j, p_nx d m j = p_ng d m i (p_gr d (d i) (m - 1)) j := fun j => by
        unfold p_nx
        rw [hr1]
      rw [show (nI m - 1 : Int32) = nI (m - 1) from nI_sub (b := 1) (by omega)]
      refine x_l2_I (fun k a c σ' τ' => a = nI i ∧ c = nI k ∧ i + 1 ≤ k ∧ k < m ∧ p_gr d (d i) k = p_gr d (d i) (m - 1) ∧ σ = σ' ∧ τ = τ') ?_ (m - 1) ⟨rfl, rfl, by omega, by omega, rfl, rfl, rfl⟩
      rintro k a c σ' τ' ⟨rfl, rfl, k1, k2, hg, rfl, rfl⟩ K2 hK2
      obtain ⟨k', rfl⟩ : ∃ k', k = k' + 1 := ⟨k - 1, by omega⟩
      unfold wX0_stepOn_47
      refine i_le (by omega) (by omega) (fun z => absurd z (by omega)) (fun _ => ?_)
      have b3 := sb (k' + 1) (by omega)
      rw [i_cl (by omega), i_cl (by omega), hc i (by omega), hc (k' + 1) (by omega)]
      refine ⟨i_in (by omega) (by omega), i_in (by omega) (by omega), i_le (by omega) (by omega) (fun z => ?_) (fun z => ?_)⟩
      · have z' : d i ≤ d (k' + 1) := (le i (k' + 1) (by omega) (by omega)).mpr z
        rw [p_gr_t z'] at hg
        rw [← hg] at eN
        unfold wX0_stepOn_73
        refine sX_swap (by omega) (by omega) ?_
        have sw : ∀ j, j < m → (x_up (x_up σ 61 i (σ 61 (k' + 1))) 61 (k' + 1) (σ 61 i)) 61 j = nI (st (p_c d m i (k' + 1) 0 j)) := fun j hj => by
          rw [p_c_0 hj, x_up_i, x_up_i, hc i (by omega), hc (k' + 1) (by omega), hc j hj]
          unfold p_e
          by_cases q1 : j = k' + 1
          · rw [if_pos q1, if_neg (by omega), if_pos q1]
          · rw [if_neg q1]
            by_cases q2 : j = i
            · rw [if_pos q2, if_pos q2]
            · rw [if_neg q2, if_neg q2, if_neg q1]
        have e60 : (x_up (x_up σ 61 i (σ 61 (k' + 1))) 61 (k' + 1) (σ 61 i)) 60 2 = nI m := by
          rw [x_up_n (by omega), x_up_n (by omega)]
          exact h60
        rw [e60]
        refine x_l2_I (fun k a c σ' τ' => ∃ c0, a = nI (i + 1 + c0) ∧ c = nI (m - c0) - 1 ∧ i + 1 + c0 ≤ m - c0 ∧ k + c0 = m ∧ (∀ z, z ≠ 61 → σ' z = σ z) ∧ (∀ j, j < m → σ' 61 j = nI (st (p_c d m i (k' + 1) c0 j))) ∧ τ = τ') ?_ m ⟨0, by rw [show (nI i + 1 : Int32) = nI (i + 1) from nI_add i 1, Nat.add_zero], rfl, by omega, rfl, fun z hz => by rw [x_up_n hz, x_up_n hz], sw, rfl⟩
        rintro k a c σ3 τ' ⟨c0, rfl, rfl, q1, q2, f, g3, rfl⟩ K3 hK3
        unfold wX0_stepOn_91
        rw [show (nI (m - c0) - 1 : Int32) = nI (m - 1 - c0) from by
          rw [show (nI (m - c0) - 1 : Int32) = nI (m - c0 - 1) from nI_sub (b := 1) (by omega), show m - c0 - 1 = m - 1 - c0 by omega]]
        refine i_le (by omega) (by omega) (fun q3 => h1 (by omega) σ3 f (fun j hj => ?_)) (fun q3 => sX_swap (by omega) (by omega) ?_)
        · rw [g3 j hj, p_c_end q3 (by omega) hj, eN]
        · rw [e_dn, show (nI (i + 1 + c0) + 1 : Int32) = nI (i + 1 + (c0 + 1)) from nI_add _ 1, show m - 1 - c0 = m - (c0 + 1) by omega]
          refine hK3 (k - 1) _ _ _ _ (by omega) ⟨c0 + 1, rfl, rfl, by omega, by omega, fun z hz => by rw [x_up_n hz, x_up_n hz]; exact f z hz, fun j hj => ?_, rfl⟩
          rw [← p_c_step (c := c0) (by omega) hj, x_up_i, x_up_i, g3 _ (show m - (c0 + 1) < m by omega), g3 _ (show i + 1 + c0 < m by omega), g3 j hj, show m - (c0 + 1) = m - 1 - c0 by omega]
          by_cases w1 : j = m - 1 - c0
          · rw [if_pos w1, if_pos w1]
          · rw [if_neg w1, if_neg w1]
            by_cases w2 : j = i + 1 + c0
            · rw [if_pos w2, if_pos w2]
            · rw [if_neg w2, if_neg w2]
      · have z' : ¬ d i ≤ d (k' + 1) := fun q => absurd ((le i (k' + 1) (by omega) (by omega)).mp q) (by omega)
        have : k' ≠ i := fun e => z' (by rw [e]; exact y')
        rw [p_gr_s z'] at hg
        rw [show (nI (k' + 1) + (-1) : Int32) = nI k' from by rw [e_dn]; exact nI_sub (a := k' + 1) (b := 1) (by omega)]
        exact hK2 k' _ _ _ _ (by omega) ⟨rfl, rfl, by omega, by omega, hg, rfl, rfl⟩
    · have y' : ¬ d i ≤ d (i + 1) := fun q => absurd ((le i (i + 1) (by omega) (by omega)).mp q) (by omega)
      rw [p_rs, if_neg y'] at hr
      rw [e_dn]
      exact hK i _ _ _ (by omega) ⟨by omega, rfl, hr, rfl, rfl⟩
theorem sM_nextTurn (h1m : 1 ≤ m) (hm6 : m ≤ 6) (hd : ∀ j, j < m → d j < m) (hc : ∀ j, j < m → ρ 17 j = nI (d j)) {Q : Int32 → x_S → x_L → Prop} (h1 : p_rs d (m - 1) ≠ 0 → ∀ ρ' : x_S, (∀ z, z ≠ 17 → ρ' z = ρ z) → (∀ j, j < m → ρ' 17 j = nI (p_nx d m j)) → Q 1 ρ' θ) (h0 : p_rs d (m - 1) = 0 → Q 0 ρ θ) : wX11_nextTurn (nI m) ρ θ Q := by
  unfold wX11_nextTurn
  rw [show (nI m - 2 : Int32) = nI (m - 1) - 1 from by
    have := e_m2 (m := m - 1) (by omega)
    rw [show m - 1 + 1 = m by omega] at this
    exact this]
  refine x_l2_I (fun k b0 c0 ρ' θ' => b0 = nI m ∧ k + 1 ≤ m ∧ c0 = nI k - 1 ∧ p_rs d k = p_rs d (m - 1) ∧ ρ = ρ' ∧ θ = θ') ?_ (m - 1) ⟨rfl, by omega, rfl, rfl, rfl, rfl⟩
  rintro k b0 c0 ρ' θ' ⟨rfl, hk, rfl, hr, rfl, rfl⟩ K hK
  unfold wX11_nextTurn_4
  refine i_dn0 (by omega) (fun g => ?_) (fun g => ?_)
  · subst g
    unfold wX11_nextTurn_31
    refine ⟨fun y => absurd y (by decide), fun _ => h0 hr.symm⟩
  · obtain ⟨i, rfl⟩ : ∃ i, k = i + 1 := ⟨k - 1, by omega⟩
    have ei : (nI (i + 1) - 1 : Int32) = nI i := nI_sub (a := i + 1) (b := 1) (by omega)
    have b1 := hd i (by omega)
    have b2 := hd (i + 1) (by omega)
    rw [ei, show (nI i + 1 : Int32) = nI (i + 1) from nI_add i 1, i_cl (by omega), i_cl (by omega), hc i (by omega), hc (i + 1) (by omega)]
    refine ⟨i_in (by omega) (by omega), i_in (by omega) (by omega), i_le (by omega) (by omega) (fun y => ?_) (fun y => ?_)⟩
    · rw [p_rs, if_pos y] at hr
      have hr1 : p_rs d (m - 1) - 1 = i := by omega
      unfold wX11_nextTurn_31
      refine ⟨fun _ => ?_, fun z => absurd (nI_pos' (by omega)) z⟩
      have eN : ∀ j, p_nx d m j = p_ng d m i (p_gr d (d i) (m - 1)) j := fun j => by
        unfold p_nx
        rw [hr1]
      rw [show (nI m - 1 : Int32) = nI (m - 1) from nI_sub (b := 1) (by omega)]
      refine x_l3_I (fun k b a c ρ' θ' => b = nI m ∧ a = nI i ∧ c = nI k ∧ i + 1 ≤ k ∧ k < m ∧ p_gr d (d i) k = p_gr d (d i) (m - 1) ∧ ρ = ρ' ∧ θ = θ') ?_ (m - 1) ⟨rfl, rfl, rfl, by omega, by omega, rfl, rfl, rfl⟩
      rintro k b a c ρ' θ' ⟨rfl, rfl, rfl, k1, k2, hg, rfl, rfl⟩ K2 hK2
      obtain ⟨k', rfl⟩ : ∃ k', k = k' + 1 := ⟨k - 1, by omega⟩
      have b3 := hd (k' + 1) (by omega)
      unfold wX11_nextTurn_41
      rw [i_cl (by omega), i_cl (by omega), hc i (by omega), hc (k' + 1) (by omega)]
      refine ⟨i_in (by omega) (by omega), i_in (by omega) (by omega), i_le (by omega) (by omega) (fun z => ?_) (fun z => ?_)⟩
      · rw [p_gr_t z] at hg
        rw [← hg] at eN
        refine sM_swap (by omega) (by omega) ?_
        have sw : ∀ j, j < m → (x_up (x_up ρ 17 i (ρ 17 (k' + 1))) 17 (k' + 1) (ρ 17 i)) 17 j = nI (p_c d m i (k' + 1) 0 j) := fun j hj => by
          rw [p_c_0 hj, x_up_i, x_up_i, hc i (by omega), hc (k' + 1) (by omega), hc j hj]
          unfold p_e
          by_cases q1 : j = k' + 1
          · rw [if_pos q1, if_neg (by omega), if_pos q1]
          · rw [if_neg q1]
            by_cases q2 : j = i
            · rw [if_pos q2, if_pos q2]
            · rw [if_neg q2, if_neg q2, if_neg q1]
        refine x_l3_I (fun k b a c ρ' θ' => ∃ c0, b = nI m ∧ a = nI i ∧ c = nI (c0 + 1) ∧ i + 1 + c0 ≤ m - c0 ∧ k + c0 = m ∧ (∀ z, z ≠ 17 → ρ' z = ρ z) ∧ (∀ j, j < m → ρ' 17 j = nI (p_c d m i (k' + 1) c0 j)) ∧ θ = θ') ?_ m ⟨0, rfl, rfl, rfl, by omega, rfl, fun z hz => by rw [x_up_n hz, x_up_n hz], sw, rfl⟩
        rintro k b a c ρ3 θ' ⟨c0, rfl, rfl, rfl, q1, q2, f, g3, rfl⟩ K3 hK3
        unfold wX11_nextTurn_71
        rw [show (nI m - nI (c0 + 1) : Int32) = nI (m - 1 - c0) from by
          rw [nI_sub (by omega), show m - (c0 + 1) = m - 1 - c0 by omega], show (nI i + nI (c0 + 1) : Int32) = nI (i + 1 + c0) from by
          rw [nI_add, show i + (c0 + 1) = i + 1 + c0 by omega]]
        refine i_le (by omega) (by omega) (fun q3 => h1 (by omega) ρ3 f (fun j hj => ?_)) (fun q3 => sM_swap (by omega) (by omega) ?_)
        · rw [g3 j hj, p_c_end q3 (by omega) hj, eN]
        · rw [show (nI (c0 + 1) + 1 : Int32) = nI (c0 + 1 + 1) from nI_add _ 1]
          refine hK3 (k - 1) _ _ _ _ _ (by omega) ⟨c0 + 1, rfl, rfl, rfl, by omega, by omega, fun z hz => by rw [x_up_n hz, x_up_n hz]; exact f z hz, fun j hj => ?_, rfl⟩
          rw [← p_c_step (c := c0) (by omega) hj, x_up_i, x_up_i, g3 _ (show m - 1 - c0 < m by omega), g3 _ (show i + 1 + c0 < m by omega), g3 j hj]
          by_cases w1 : j = m - 1 - c0
          · rw [if_pos w1, if_pos w1]
          · rw [if_neg w1, if_neg w1]
            by_cases w2 : j = i + 1 + c0
            · rw [if_pos w2, if_pos w2]
            · rw [if_neg w2, if_neg w2]
      · have z' : ¬ d i ≤ d (k' + 1) := by omega
        have : k' ≠ i := fun e => z' (by rw [e]; exact y)
        rw [p_gr_s z'] at hg
        rw [show (nI (k' + 1) + (-1) : Int32) = nI k' from by rw [e_dn]; exact nI_sub (a := k' + 1) (b := 1) (by omega)]
        exact hK2 k' _ _ _ _ _ (by omega) ⟨rfl, rfl, rfl, by omega, by omega, hg, rfl, rfl⟩
    · have y' : ¬ d i ≤ d (i + 1) := by omega
      rw [p_rs, if_neg y'] at hr
      rw [e_dn]
      exact hK i _ _ _ _ (by omega) ⟨rfl, by omega, rfl, hr, rfl, rfl⟩
end ST
