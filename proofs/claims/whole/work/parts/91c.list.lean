section LR
variable {N : g_F} {σ ρ : x_S} {τ θ : x_L}
/-- all placed before road r, and of road r before stop m -/
def x_li (N : g_F) (r m : Nat) (σ : x_S) : Prop := ∀ s, g_is N s → N 9 s < r ∨ (N 9 s = r ∧ s < m) → σ 28 (g_P N s) = nI s
theorem sX_listByRoad (hN : g_WN N) (hF : f_F N σ) (h30 : ∀ t, t < N 0 1 → σ 30 t = nI (10 * t + N 8 t)) {Q : x_S → x_L → Prop} (h : ∀ σ' : x_S, (∀ z, z ≠ 28 → z ≠ 29 → σ' z = σ z) → (∀ r, r ≤ N 0 0 → σ' 29 r = nI (g_bg N r)) → (∀ i, i < g_bg N (N 0 0) → σ' 28 i = nI (g_W N i)) → Q σ' τ) : wX7_listByRoad σ τ Q := by
  have hb := hN.1
  unfold wX7_listByRoad
  refine x_S2 (fun r σ' τ' => (∀ z, z ≠ 28 → z ≠ 29 → σ' z = σ z) ∧ (∀ r', r' < r → σ' 29 r' = nI (g_bg N r')) ∧ x_li N r 0 σ' ∧ τ' = τ) (fun r => nI (g_bg N r)) (fun r => nI r) (lo := 0) (n := N 0 0) (Nat.zero_le _) (fun K r σ1 τ1 _ hr hP hK => ?_) (fun K σ1 τ1 hP => ?_) ⟨fun _ _ _ => rfl, fun r hr => absurd hr (Nat.not_lt_zero _), fun s hs hc => absurd hc (by omega), rfl⟩ (by rw [g_bg_0]; rfl) rfl
  · obtain ⟨f, p1, p2, rfl⟩ := hP
    have hF1 := hF.cong (σ' := σ1) (fun z hz => f z (by omega) (by omega))
    have hbr := g_bg_b N r
    unfold wX7_listByRoad_4
    rw [hF1.1.1, i_cl (show r < 1000000000 by omega)]
    refine i_le (by omega) (by omega) (fun g => absurd g (by omega)) (fun _ => ⟨i_in (by omega) (by omega), ?_⟩)
    refine x_S3 (fun t σ' τ' => (∀ z, z ≠ 28 → z ≠ 29 → σ' z = σ z) ∧ (∀ r', r' < r + 1 → σ' 29 r' = nI (g_bg N r')) ∧ x_li N r (10 * t) σ' ∧ τ' = τ1) (fun t => nI (g_bg N r + g_cnt (g_row N r) (10 * t))) (fun _ => nI r) (fun t => nI t) (lo := 0) (n := N 0 1) (Nat.zero_le _) (fun K2 t σ2 τ2 _ ht hP hK2 => ?_) (fun K2 σ2 τ2 hP => ?_) (σ := x_up σ1 29 r (nI (g_bg N r))) ⟨fun z a c => by rw [x_up_n c]; exact f z a c, fun r' hr' => ?_, fun s hs hc => by rw [x_up_n (show (28 : Nat) ≠ 29 by omega)]; exact p2 s hs (by omega), rfl⟩ (by rw [show g_cnt (g_row N r) (10 * 0) = 0 from rfl, Nat.add_zero]) rfl rfl
    · obtain ⟨f2, q1, q2, rfl⟩ := hP
      have hF2 := hF.cong (σ' := σ2) (fun z hz => f2 z (by omega) (by omega))
      have h10 := (hN.2.2.1 t ht).2.2.2.2
      unfold wX7_listByRoad_24
      rw [hF2.1.2, show (nI t * 10 : Int32) = nI (t * 10) from nI_mul t 10]
      refine i_le (by omega) (by omega) (fun g => absurd g (by omega)) (fun _ => ?_)
      refine x_S4 (fun m σ' τ' => (∀ z, z ≠ 28 → z ≠ 29 → σ' z = σ z) ∧ (∀ r', r' < r + 1 → σ' 29 r' = nI (g_bg N r')) ∧ x_li N r m σ' ∧ τ' = τ2) (fun m => nI (g_bg N r + g_cnt (g_row N r) m)) (fun _ => nI r) (fun _ => nI t) (fun m => nI m) (lo := t * 10) (n := 10 * t + N 8 t) (by omega) (fun K3 m σ3 τ3 hlo hm hP hK3 => ?_) (fun K3 σ3 τ3 hP => ?_) ⟨f2, q1, by rw [Nat.mul_comm]; exact q2, rfl⟩ (by rw [Nat.mul_comm]) rfl rfl rfl
      · obtain ⟨f3, r1, r2, rfl⟩ := hP
        have hF3 := hF.cong (σ' := σ3) (fun z hz => f3 z (by omega) (by omega))
        have a30 : σ3 30 t = nI (10 * t + N 8 t) := by rw [f3 30 (by omega) (by omega)]; exact h30 t ht
        have hs : g_is N m := by
          have := (g_is_of hN ht (show m - 10 * t < N 8 t by omega)).1
          rw [show 10 * t + (m - 10 * t) = m by omega] at this
          exact this
        have hm120 := g_is_lt hN hs
        have hrd := g_road_lt hN hs
        have hin := g_P_in hN hs
        have hbb := g_bg_b N (N 9 m + 1)
        have hcm := g_cnt_le (g_row N r) m
        unfold wX7_listByRoad_41 wX7_listByRoad_77
        rw [i_cl (show t < 1000000000 by omega), a30, i_cl (show m < 1000000000 by omega), hF3.2.2.2 m hs, show (nI m + 1 : Int32) = nI (m + 1) from nI_add m 1]
        refine ⟨i_in (by omega) (by omega), i_le (by omega) (by omega) (fun g => absurd g (by omega)) (fun _ => ⟨i_in (by omega) (by omega), i_ne (by omega) (by omega) (fun ne => ?_) (fun e => ?_)⟩)⟩
        · have hc : g_cnt (g_row N r) (m + 1) = g_cnt (g_row N r) m := by
            rw [g_cnt_succ, if_neg (fun y => ne (g_row_iff.mp y).2), Nat.add_zero]
          have hk := hK3 σ3 τ3 ⟨f3, r1, fun s hs2 hc2 => r2 s hs2 (by
            rcases hc2 with y | y
            · exact Or.inl y
            · refine Or.inr ⟨y.1, ?_⟩
              have : s ≠ m := fun z => ne (by rw [← z]; exact y.1)
              omega), rfl⟩
          rw [hc] at hk
          exact hk
        · have hc : g_cnt (g_row N r) (m + 1) = g_cnt (g_row N r) m + 1 := by
            rw [g_cnt_succ, if_pos (g_row_iff.mpr ⟨hs, e⟩)]
          have eP : g_P N m = g_bg N r + g_cnt (g_row N r) m := by
            unfold g_P
            rw [e]
          rw [i_cl (by omega), show (nI (g_bg N r + g_cnt (g_row N r) m) + 1 : Int32) = nI (g_bg N r + g_cnt (g_row N r) m + 1) from nI_add _ 1]
          have hk := hK3 (x_up σ3 28 (g_bg N r + g_cnt (g_row N r) m) (nI m)) τ3 ⟨fun z a c => by rw [x_up_n a]; exact f3 z a c, fun r' hr' => by rw [x_up_n (show (29 : Nat) ≠ 28 by omega)]; exact r1 r' hr', fun s hs2 hc2 => ?_, rfl⟩
          · rw [hc, ← Nat.add_assoc] at hk
            exact ⟨i_in (by omega) (by omega), hk⟩
          · by_cases z : s = m
            · rw [z, eP, x_up_ss]
            · have : g_P N s ≠ g_bg N r + g_cnt (g_row N r) m := fun y => z (g_P_inj hN hs2 hs (by rw [y, eP]))
              rw [x_up_sn this]
              exact r2 s hs2 (by omega)
      · obtain ⟨f3, r1, r2, rfl⟩ := hP
        have a30 : σ3 30 t = nI (10 * t + N 8 t) := by rw [f3 30 (by omega) (by omega)]; exact h30 t ht
        have pad : g_cnt (g_row N r) (10 * (t + 1)) = g_cnt (g_row N r) (10 * t + N 8 t) := by
          have key : ∀ k, k ≤ 10 - N 8 t → g_cnt (g_row N r) (10 * t + N 8 t + k) = g_cnt (g_row N r) (10 * t + N 8 t) := by
            intro k
            induction k with
            | zero => intro _; rfl
            | succ k ih =>
              intro hk
              rw [← Nat.add_assoc, g_cnt_succ, ih (by omega), if_neg, Nat.add_zero]
              intro y
              have hs2 := (g_row_iff.mp y).1.2
              rw [show (10 * t + N 8 t + k) / 10 = t by omega] at hs2
              omega
          rw [← key (10 - N 8 t) (Nat.le_refl _), show 10 * t + N 8 t + (10 - N 8 t) = 10 * (t + 1) by omega]
        unfold wX7_listByRoad_41
        rw [i_cl (show t < 1000000000 by omega), a30, show (nI t + 1 : Int32) = nI (t + 1) from nI_add t 1]
        have hk := hK2 σ3 τ3 ⟨f3, r1, fun s hs2 hc2 => r2 s hs2 (by
          rcases hc2 with y | y
          · exact Or.inl y
          · refine Or.inr ⟨y.1, ?_⟩
            have z := hs2.2
            by_cases w : s / 10 = t
            · rw [w] at z
              omega
            · omega), rfl⟩
        rw [pad] at hk
        exact ⟨i_in (by omega) (by omega), i_le (by omega) (by omega) (fun _ => hk) (fun g => absurd g (by omega))⟩
    · obtain ⟨f2, q1, q2, rfl⟩ := hP
      have hF2 := hF.cong (σ' := σ2) (fun z hz => f2 z (by omega) (by omega))
      unfold wX7_listByRoad_24
      rw [hF2.1.2, show (nI r + 1 : Int32) = nI (r + 1) from nI_add r 1]
      refine i_le (by omega) (by omega) (fun _ => ?_) (fun g => absurd g (by omega))
      have hk := hK σ2 τ2 ⟨f2, q1, fun s hs hc => q2 s hs (by
        have := hs.1
        omega), rfl⟩
      have e : g_bg N (r + 1) = g_bg N r + g_cnt (g_row N r) (10 * N 0 1) := by
        have key : ∀ k, g_cnt (g_row N r) (10 * N 0 1 + k) = g_cnt (g_row N r) (10 * N 0 1) := by
          intro k
          induction k with
          | zero => rfl
          | succ k ih =>
            rw [← Nat.add_assoc, g_cnt_succ, ih, if_neg, Nat.add_zero]
            intro y
            have hs1 := (g_row_iff.mp y).1.1
            omega
        rw [g_bg_s, ← key (120 - 10 * N 0 1), show 10 * N 0 1 + (120 - 10 * N 0 1) = 120 by omega]
      rw [e] at hk
      exact hk
    · rw [x_up_i]
      by_cases z : r' = r
      · rw [if_pos z, z]
      · rw [if_neg z]
        exact p1 r' (by omega)
  · obtain ⟨f, p1, p2, rfl⟩ := hP
    have hF1 := hF.cong (σ' := σ1) (fun z hz => f z (by omega) (by omega))
    unfold wX7_listByRoad_4
    rw [hF1.1.1, i_cl (show N 0 0 < 1000000000 by omega)]
    refine i_le (by omega) (by omega) (fun _ => ⟨i_in (by omega) (by omega), h _ (fun z a c => by rw [x_up_n c]; exact f z a c) (fun r hr => ?_) (fun i hi => ?_)⟩) (fun g => absurd g (by omega))
    · rw [x_up_i]
      by_cases z : r = N 0 0
      · rw [if_pos z, z]
      · rw [if_neg z]
        exact p1 r (by omega)
    · obtain ⟨r, y1, y2, y3⟩ := g_bg_at hi
      obtain ⟨s, g1, g2, g3⟩ := g_P_sur y2 y3
      rw [x_up_n (show (28 : Nat) ≠ 29 by omega), ← g3, g_W_P hN g1]
      exact p2 s g1 (by omega)
end LR
