/-! the class's table of shared places -/
theorem nb_or0 : ∀ v, v < 16 → nI v ||| nI 0 = nI v ∧ nI 0 ||| nI v = nI v := by decide +kernel
theorem e_1L : ∀ a, a < 11 → (1 : Int64) + (nI a).toInt64 = (nI (1 + a)).toInt64 := by decide +kernel
theorem g_shf_fuel {N : g_F} (hN : g_WN N) : ∀ f s s', g_is N s → g_is N s' → N 8 (s / 10) ≤ s % 10 + f → g_shf N (f + 1) s s' = g_shf N f s s'
  | 0, s, s', hs, _, h => absurd hs.2 (by omega)
  | f + 1, s, s', hs, hs', h => by
    have ih : s % 10 + 1 < N 8 (s / 10) ∧ s' % 10 + 1 < N 8 (s' / 10) → g_shf N (f + 1) (s + 1) (s' + 1) = g_shf N f (s + 1) (s' + 1) := fun c => by
      obtain ⟨a1, a2, a3⟩ := g_shf_stop (c := 1) hN hs c.1
      obtain ⟨b1, b2, b3⟩ := g_shf_stop (c := 1) hN hs' c.2
      exact g_shf_fuel hN f _ _ a3 b3 (by rw [a1, a2]; omega)
    have e1 : g_shf N (f + 1 + 1) s s' = if N 9 s = N 9 s' then (if s % 10 + 1 < N 8 (s / 10) ∧ s' % 10 + 1 < N 8 (s' / 10) then 1 + g_shf N (f + 1) (s + 1) (s' + 1) else 1) else 0 := rfl
    have e2 : g_shf N (f + 1) s s' = if N 9 s = N 9 s' then (if s % 10 + 1 < N 8 (s / 10) ∧ s' % 10 + 1 < N 8 (s' / 10) then 1 + g_shf N f (s + 1) (s' + 1) else 1) else 0 := rfl
    rw [e1, e2]
    by_cases c : s % 10 + 1 < N 8 (s / 10) ∧ s' % 10 + 1 < N 8 (s' / 10)
    · rw [ih c]
    · rw [if_neg c, if_neg c]
theorem g_shr_e {N : g_F} (s s' : Nat) : g_shr N s s' = if N 9 s = N 9 s' then (if s % 10 + 1 < N 8 (s / 10) ∧ s' % 10 + 1 < N 8 (s' / 10) then 1 + g_shf N 9 (s + 1) (s' + 1) else 1) else 0 := rfl
theorem g_shr_s {N : g_F} (hN : g_WN N) {s s' : Nat} (hs : g_is N s) (hs' : g_is N s') (h : N 9 s = N 9 s') (c : s % 10 + 1 < N 8 (s / 10) ∧ s' % 10 + 1 < N 8 (s' / 10)) : g_shr N s s' = 1 + g_shr N (s + 1) (s' + 1) := by
  obtain ⟨a1, a2, a3⟩ := g_shf_stop (c := 1) hN hs c.1
  obtain ⟨b1, b2, b3⟩ := g_shf_stop (c := 1) hN hs' c.2
  have h10 := (hN.2.2.1 _ hs.1).2.2.2.2.2
  have := g_shf_fuel hN 9 _ _ a3 b3 (by rw [a1, a2]; omega)
  rw [g_shr_e s s', if_pos h, if_pos c, ← this]
  rfl
theorem g_shr_1 {N : g_F} {s s' : Nat} (h : N 9 s = N 9 s') (c : ¬ (s % 10 + 1 < N 8 (s / 10) ∧ s' % 10 + 1 < N 8 (s' / 10))) : g_shr N s s' = 1 := by
  rw [g_shr_e, if_pos h, if_neg c]
theorem g_shr_0 {N : g_F} {s s' : Nat} (h : N 9 s ≠ N 9 s') : g_shr N s s' = 0 := by
  rw [g_shr_e, if_neg h]
theorem x_upL_sn {τ : x_L} {k j i : Nat} {v : Int64} (h : i ≠ j) : x_upL τ k j v k i = τ k i := by
  rw [x_upL_s]
  exact if_neg h
theorem i_dn {a k : Nat} {P R : Prop} (ha : a + k < 1000000) (h1 : k = 0 → P) (h2 : 0 < k → R) : (nI (a + k) - 1 < nI a → P) ∧ (¬ nI (a + k) - 1 < nI a → R) := by
  have e : (nI (a + k) - 1 < nI a) ↔ k = 0 := by
    rw [Int32.lt_iff_toInt_lt, show (1 : Int32) = nI 1 from rfl, e_dif (by omega) (by omega), nI_toInt (by omega)]
    omega
  exact ⟨fun g => h1 (e.mp g), fun g => h2 (Nat.pos_of_ne_zero (fun z => g (e.mpr z)))⟩
section SH
variable {N : g_F} {σ ρ : x_S} {τ θ : x_L}
theorem sX_shared1 {x y v : Nat} {Q : Int32 → x_S → x_L → Prop} (bx : x < 120) (by' : y < 120) (hv : nb (τ 32 (12 * x + y / 10)) (y % 10) = nI v) (h : Q (nI v) σ τ) : wX7_sharedPlaces (nI x) (nI y) σ τ Q := by
  unfold wX7_sharedPlaces
  have e1 : (nI x * 12 + nI y / 10 : Int32) = nI (12 * x + y / 10) := by
    show nI x * nI 12 + nI y / nI 10 = _
    rw [nI_mul, nI_div (by omega) (by omega) (by omega), nI_add, Nat.mul_comm]
  have e2 : (4 * (nI y - nI y / 10 * 10) : Int32) = nI (4 * (y % 10)) := by
    show nI 4 * (nI y - nI y / nI 10 * nI 10) = _
    rw [nI_div (by omega) (by omega) (by omega), nI_mul, nI_sub (by omega), nI_mul, show y - y / 10 * 10 = y % 10 by omega]
  unfold nb at hv
  rw [e1, e2, i_cl (by omega), hv]
  exact ⟨i_in (by omega) (by omega), h⟩
theorem sX_setShared (hN : g_WN N) (hF : f_F N σ) (h30 : ∀ t, t < N 0 1 → σ 30 t = nI (10 * t + N 8 t)) (h31 : ∀ s, g_is N s → σ 31 s = g_nI (g_nxt N s)) {t o : Nat} (ht : t < N 0 1) (ho : o < N 0 1) {Q : x_S → x_L → Prop} (h : ∀ τ' : x_L, (∀ z, z ≠ 32 → τ' z = τ z) → (∀ i, (∀ q, q < N 8 t → i ≠ 12 * (10 * t + q) + o) → τ' 32 i = τ 32 i) → (∀ q p, q < N 8 t → p < N 8 o → nb (τ' 32 (12 * (10 * t + q) + o)) p = nI (g_shr N (10 * t + q) (10 * o + p))) → Q σ τ') : wX7_setShared (nI t) (nI o) σ τ Q := by
  have hb := hN.1
  have h10 := (hN.2.2.1 t ht).2.2.2.2
  have h10o := (hN.2.2.1 o ho).2.2.2.2
  unfold wX7_setShared
  rw [i_cl (show t < 1000000000 by omega), h30 t ht]
  refine ⟨i_in (by omega) (by omega), ?_⟩
  refine x_S3 (fun i σ' τ' => σ = σ' ∧ (∀ z, z ≠ 32 → τ' z = τ z) ∧ (∀ j, (∀ q, N 8 t - i ≤ q → q < N 8 t → j ≠ 12 * (10 * t + q) + o) → τ' 32 j = τ 32 j) ∧ (∀ q p, N 8 t - i ≤ q → q < N 8 t → p < N 8 o → nb (τ' 32 (12 * (10 * t + q) + o)) p = nI (g_shr N (10 * t + q) (10 * o + p)))) (fun _ => nI t) (fun _ => nI o) (fun i => nI (10 * t + (N 8 t - i)) - 1) (lo := 0) (n := N 8 t) (Nat.zero_le _) (fun K i σ1 τ1 _ hi hP hK => ?_) (fun K σ1 τ1 hP => ?_) ⟨rfl, fun _ _ => rfl, fun _ _ => rfl, fun q p g1 g2 => absurd g2 (by omega)⟩ rfl rfl rfl
  · obtain ⟨rfl, f1, f2, f3⟩ := hP
    have hq : N 8 t - (i + 1) < N 8 t := by omega
    unfold wX7_setShared_9
    rw [show (nI t * 10 : Int32) = nI (10 * t) from e_10 t]
    refine i_dn (by omega) (fun g => absurd g (by omega)) (fun _ => ?_)
    rw [show (nI (10 * t + (N 8 t - i)) - 1 : Int32) = nI (10 * t + (N 8 t - (i + 1))) from by
      rw [show (nI (10 * t + (N 8 t - i)) - 1 : Int32) = nI (10 * t + (N 8 t - i) - 1) from nI_sub (b := 1) (by omega), show 10 * t + (N 8 t - i) - 1 = 10 * t + (N 8 t - (i + 1)) by omega]]
    have hK : ∀ τ' : x_L, (∀ z, z ≠ 32 → τ' z = τ z) → (∀ j, j ≠ 12 * (10 * t + (N 8 t - (i + 1))) + o → τ' 32 j = τ1 32 j) → (∀ p, p < N 8 o → nb (τ' 32 (12 * (10 * t + (N 8 t - (i + 1))) + o)) p = nI (g_shr N (10 * t + (N 8 t - (i + 1))) (10 * o + p))) → K (nI t) (nI o) (nI (10 * t + (N 8 t - (i + 1))) - 1) σ τ' := fun τ' k1 k2 k3 => by
      refine hK σ τ' ⟨rfl, k1, fun j hj => ?_, fun q p g1 g2 g3 => ?_⟩
      · rw [k2 j (hj _ (Nat.le_refl _) hq)]
        exact f2 j (fun q g1 g2 => hj q (by omega) g2)
      · by_cases z : q = N 8 t - (i + 1)
        · rw [z]
          exact k3 p g3
        · rw [k2 _ (by omega)]
          exact f3 q p (by omega) g2 g3
    obtain ⟨q0, hq0⟩ : ∃ q0, q0 = N 8 t - (i + 1) := ⟨_, rfl⟩
    rw [← hq0] at hK hq ⊢
    obtain ⟨hs, e1, e2, b1, b2, b3⟩ := g_is_of hN ht hq
    obtain ⟨s0, hs0⟩ : ∃ s0, s0 = 10 * t + q0 := ⟨_, rfl⟩
    rw [← hs0] at hK hs e1 e2 b1 ⊢
    have eI : (nI s0 * 12 + nI o : Int32) = nI (12 * s0 + o) := by
      show nI s0 * nI 12 + nI o = _
      rw [nI_mul, nI_add, Nat.mul_comm]
    rw [eI, i_cl (show o < 1000000000 by omega), h30 o ho, i_cl (show 12 * s0 + o < 1000000000 by omega)]
    refine ⟨i_in (by omega) (by omega), i_in (by omega) (by omega), ?_⟩
    refine x_S4 (fun j σ' τ' => σ = σ' ∧ (∀ z, z ≠ 32 → τ' z = τ z) ∧ (∀ j, j ≠ 12 * s0 + o → τ' 32 j = τ1 32 j) ∧ (∀ k, k < 10 → nb (τ' 32 (12 * s0 + o)) k = if N 8 o - j ≤ k ∧ k < N 8 o then nI (g_shr N s0 (10 * o + k)) else nI 0)) (fun _ => nI t) (fun _ => nI o) (fun _ => nI s0) (fun j => nI (10 * o + (N 8 o - j)) - 1) (lo := 0) (n := N 8 o) (Nat.zero_le _) (fun K2 j σ2 τ2 _ hj hP hK2 => ?_) (fun K2 σ2 τ2 hP => ?_) ⟨rfl, fun z hz => by rw [x_upL_n hz]; exact f1 z hz, fun j hj => ?_, fun k hk => ?_⟩ rfl rfl rfl rfl
    · obtain ⟨rfl, r1, r2, r3⟩ := hP
      have hp : N 8 o - (j + 1) < N 8 o := by omega
      unfold wX7_setShared_39
      rw [show (nI o * 10 : Int32) = nI (10 * o) from e_10 o]
      refine i_dn (by omega) (fun g => absurd g (by omega)) (fun _ => ?_)
      rw [show (nI (10 * o + (N 8 o - j)) - 1 : Int32) = nI (10 * o + (N 8 o - (j + 1))) from by
        rw [show (nI (10 * o + (N 8 o - j)) - 1 : Int32) = nI (10 * o + (N 8 o - j) - 1) from nI_sub (b := 1) (by omega), show 10 * o + (N 8 o - j) - 1 = 10 * o + (N 8 o - (j + 1)) by omega]]
      obtain ⟨p0, hp0⟩ : ∃ p0, p0 = N 8 o - (j + 1) := ⟨_, rfl⟩
      rw [← hp0] at hK2 hp ⊢
      obtain ⟨hm, d1, d2, c1, c2, c3⟩ := g_is_of hN ho hp
      obtain ⟨m0, hm0⟩ : ∃ m0, m0 = 10 * o + p0 := ⟨_, rfl⟩
      rw [← hm0] at hK2 hm d1 d2 c1 ⊢
      have hgo : ∀ v : Nat, v < 16 → v = g_shr N s0 m0 → N 9 s0 = N 9 m0 → wX7_setShared_121 K K2 Q (nI t) (nI o) (nI s0) (nI m0) ((nI v).toInt64) σ τ2 := fun v hv ev _ => by
        unfold wX7_setShared_121 wX7_setShared_147
        have e4 : (4 * (nI m0 - nI m0 / 10 * 10) : Int32) = nI (4 * p0) := by
          show nI 4 * (nI m0 - nI m0 / nI 10 * nI 10) = _
          rw [nI_div (by omega) (by omega) (by omega), nI_mul, nI_sub (by omega), nI_mul, show m0 - m0 / 10 * 10 = p0 by omega]
        rw [eI, i_cl (show 12 * s0 + o < 1000000000 by omega), e4, e_dn]
        refine ⟨i_in (by omega) (by omega), hK2 _ _ ⟨rfl, fun z hz => by rw [x_upL_n hz]; exact r1 z hz, fun i hi => by rw [x_upL_sn hi]; exact r2 i hi, fun k hk => ?_⟩⟩
        rw [x_upL_ss, nb_or, r3 k hk, nb_sh _ (by omega) k hk v hv]
        by_cases z : k = p0
        · rw [if_pos z, if_neg (by omega), if_pos (by omega), (nb_or0 v hv).2, z, ← hm0, ev]
        · rw [if_neg z]
          by_cases z2 : N 8 o - j ≤ k ∧ k < N 8 o
          · have hle := g_shf_le N 10 s0 (10 * o + k)
            rw [if_pos z2, if_pos (by omega), (nb_or0 _ (by unfold g_shr; omega)).1]
          · rw [if_neg z2, if_neg (by omega)]
            rfl
      have hrd := g_road_lt hN hs
      have hrm := g_road_lt hN hm
      have hn1 : g_nxt N s0 < 1000 := by
        unfold g_nxt
        split
        · rename_i c
          have := g_road_lt hN (g_shf_stop (c := 1) hN hs c).2.2
          omega
        · omega
      have hn2 : g_nxt N m0 < 1000 := by
        unfold g_nxt
        split
        · rename_i c
          have := g_road_lt hN (g_shf_stop (c := 1) hN hm c).2.2
          omega
        · omega
      have n1 : g_nxt N s0 = 0 ↔ ¬ s0 % 10 + 1 < N 8 (s0 / 10) := by
        unfold g_nxt
        split <;> omega
      have n2 : g_nxt N m0 = 0 ↔ ¬ m0 % 10 + 1 < N 8 (m0 / 10) := by
        unfold g_nxt
        split <;> omega
      rw [i_cl (show s0 < 1000000000 by omega), i_cl (show m0 < 1000000000 by omega), hF.2.2.2 _ hs, hF.2.2.2 _ hm, h31 _ hs, h31 _ hm]
      refine ⟨i_in (by omega) (by omega), i_in (by omega) (by omega), i_ne (by omega) (by omega) (fun ne => ?_) (fun e => ?_)⟩
      · unfold wX7_setShared_147
        rw [e_dn]
        refine hK2 _ _ ⟨rfl, r1, r2, fun k hk => ?_⟩
        rw [r3 k hk]
        by_cases z : k = p0
        · rw [if_neg (by omega), if_pos (by omega), z, ← hm0, g_shr_0 ne]
        · by_cases z2 : N 8 o - j ≤ k ∧ k < N 8 o
          · rw [if_pos z2, if_pos (by omega)]
          · rw [if_neg z2, if_neg (by omega)]
      · have one : ¬ (s0 % 10 + 1 < N 8 (s0 / 10) ∧ m0 % 10 + 1 < N 8 (m0 / 10)) → wX7_setShared_95 K K2 Q (nI t) (nI o) (nI s0) (nI m0) σ τ2 := fun c => by
          unfold wX7_setShared_95 wX7_setShared_96
          exact i_zer (hgo 1 (by omega) (g_shr_1 e c).symm e)
        refine ⟨fun g => one (fun y => (n1.mp ((g_nI_m1 hn1).mp g)) y.1), fun g => ⟨fun g2 => one (fun y => (n2.mp ((g_nI_m1 hn2).mp g2)) y.2), fun g2 => ?_⟩⟩
        have y1 : s0 % 10 + 1 < N 8 (s0 / 10) := Classical.byContradiction fun y => g ((g_nI_m1 hn1).mpr (n1.mpr y))
        have y2 : m0 % 10 + 1 < N 8 (m0 / 10) := Classical.byContradiction fun y => g2 ((g_nI_m1 hn2).mpr (n2.mpr y))
        have y3 : q0 + 1 < N 8 t := by
          have y3 := y1
          rw [e1, e2] at y3
          exact y3
        have y4 : p0 + 1 < N 8 o := by
          have y4 := y2
          rw [d1, d2] at y4
          exact y4
        unfold wX7_setShared_96
        refine i_one' ?_
        rw [show (nI s0 + 1 : Int32) = nI (s0 + 1) from nI_add s0 1, show (nI m0 + 1 : Int32) = nI (m0 + 1) from nI_add m0 1]
        have hle := g_shf_le N 10 (s0 + 1) (m0 + 1)
        refine sX_shared1 (v := g_shr N (s0 + 1) (m0 + 1)) (by omega) (by omega) ?_ ?_
        · rw [show (m0 + 1) / 10 = o by omega, r2 _ (by omega)]
          have := f3 (q0 + 1) (p0 + 1) (by omega) (by omega) (by omega)
          rw [show 10 * t + (q0 + 1) = s0 + 1 by omega, show 10 * o + (p0 + 1) = m0 + 1 by omega] at this
          rw [show (m0 + 1) % 10 = p0 + 1 by omega]
          exact this
        · rw [e_1L _ (by unfold g_shr; omega)]
          exact hgo _ (by unfold g_shr; omega) (g_shr_s hN hs hm e ⟨y1, y2⟩).symm e
    · obtain ⟨rfl, r1, r2, r3⟩ := hP
      unfold wX7_setShared_39
      rw [show (nI o * 10 : Int32) = nI (10 * o) from e_10 o]
      refine i_dn (by omega) (fun _ => ?_) (fun g => absurd g (by omega))
      rw [e_dn]
      refine hK τ2 r1 r2 (fun p hp => ?_)
      rw [r3 p (by omega), if_pos (by omega)]
    · rw [x_upL_sn hj]
    · rw [x_upL_ss, nb_0 k hk, if_neg (by omega)]
  · obtain ⟨rfl, f1, f2, f3⟩ := hP
    unfold wX7_setShared_9
    rw [show (nI t * 10 : Int32) = nI (10 * t) from e_10 t]
    exact i_dn (by omega) (fun _ => h τ1 f1 (fun i hi => f2 i (fun q _ g2 => hi q g2)) (fun q p g1 g2 => f3 q p (by omega) g1 g2)) (fun g => absurd g (by omega))
end SH
