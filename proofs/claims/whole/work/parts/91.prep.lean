/-! the class's tables of a fleet: where a truck ends, the road after a stop -/
section PR
variable {N : g_F} {σ ρ : x_S} {τ θ : x_L}
theorem sX_setNext (hN : g_WN N) (hF : f_F N σ) (h30 : ∀ t, t < N 0 1 → σ 30 t = nI (10 * t + N 8 t)) {Q : x_S → x_L → Prop} (h : ∀ σ' : x_S, (∀ z, z ≠ 31 → σ' z = σ z) → (∀ s, g_is N s → σ' 31 s = g_nI (g_nxt N s)) → Q σ' τ) : wX7_setNext σ τ Q := by
  have hb := hN.1
  unfold wX7_setNext
  refine x_S1 (fun t σ' τ' => (∀ z, z ≠ 31 → σ' z = σ z) ∧ (∀ s, g_is N s → s / 10 < t → σ' 31 s = g_nI (g_nxt N s)) ∧ τ' = τ) (fun t => nI t) (lo := 0) (n := N 0 1) (Nat.zero_le _) (fun K t σ1 τ1 _ ht hP hK => ?_) (fun K σ1 τ1 hP => ?_) ⟨fun _ _ => rfl, fun s _ hs => absurd hs (Nat.not_lt_zero _), rfl⟩ rfl
  · obtain ⟨f, p1, rfl⟩ := hP
    have hF1 := hF.cong (σ' := σ1) (fun z hz => f z (by omega))
    have h10 := (hN.2.2.1 t ht).2.2.2.2
    have a30 : σ1 30 t = nI (10 * t + N 8 t) := by rw [f 30 (by omega)]; exact h30 t ht
    unfold wX7_setNext_2
    rw [hF1.1.2, i_cl (show t < 1000000000 by omega), a30, show (nI (10 * t + N 8 t) - 1 : Int32) = nI (10 * t + N 8 t - 1) from nI_sub (a := 10 * t + N 8 t) (b := 1) (by omega), show (nI t * 10 : Int32) = nI (t * 10) from nI_mul t 10]
    refine i_le (by omega) (by omega) (fun g => absurd g (by omega)) (fun _ => ⟨i_in (by omega) (by omega), ?_⟩)
    refine x_S3 (fun q σ' τ' => (∀ z, z ≠ 31 → σ' z = σ z) ∧ (∀ s, g_is N s → s / 10 < t ∨ (s / 10 = t ∧ s < q) → σ' 31 s = g_nI (g_nxt N s)) ∧ τ' = τ1) (fun _ => nI t) (fun _ => nI (10 * t + N 8 t - 1)) (fun q => nI q) (lo := t * 10) (n := 10 * t + N 8 t - 1) (by omega) (fun K2 q σ2 τ2 hlo hq hP hK2 => ?_) (fun K2 σ2 τ2 hP => ?_) ⟨f, fun s hs hc => p1 s hs (by omega), rfl⟩ rfl rfl rfl
    · obtain ⟨f2, r1, rfl⟩ := hP
      have hF2 := hF.cong (σ' := σ2) (fun z hz => f2 z (by omega))
      have hs1 : g_is N (q + 1) := by
        have := (g_is_of hN ht (show q + 1 - 10 * t < N 8 t by omega)).1
        rw [show 10 * t + (q + 1 - 10 * t) = q + 1 by omega] at this
        exact this
      unfold wX7_setNext_27
      rw [show (nI q + 1 : Int32) = nI (q + 1) from nI_add q 1, i_cl (show q + 1 < 1000000000 by omega), i_cl (show q < 1000000000 by omega), hF2.2.2.2 _ hs1]
      refine i_le (by omega) (by omega) (fun g => absurd g (by omega)) (fun _ => ⟨i_in (by omega) (by omega), i_in (by omega) (by omega), hK2 _ _ ⟨fun z hz => by rw [x_up_n hz]; exact f2 z hz, fun s hs hc => ?_, rfl⟩⟩)
      by_cases z : s = q
      · rw [z, x_up_ss]
        unfold g_nxt
        rw [show q / 10 = t by omega, if_pos (by omega)]
        unfold g_nI
        rw [if_neg (by omega), Nat.add_sub_cancel]
      · rw [x_up_sn z]
        exact r1 s hs (by omega)
    · obtain ⟨f2, r1, rfl⟩ := hP
      unfold wX7_setNext_27
      rw [i_cl (show 10 * t + N 8 t - 1 < 1000000000 by omega), show (nI t + 1 : Int32) = nI (t + 1) from nI_add t 1]
      refine i_le (by omega) (by omega) (fun _ => ⟨i_in (by omega) (by omega), hK _ _ ⟨fun z hz => by rw [x_up_n hz]; exact f2 z hz, fun s hs hc => ?_, rfl⟩⟩) (fun g => absurd g (by omega))
      by_cases z : s = 10 * t + N 8 t - 1
      · rw [z, x_up_ss]
        unfold g_nxt
        rw [show (10 * t + N 8 t - 1) / 10 = t by omega, if_neg (by omega)]
        rfl
      · rw [x_up_sn z]
        refine r1 s hs ?_
        by_cases y : s / 10 < t
        · exact Or.inl y
        · have hs2 := hs.2
          have e : s / 10 = t := by omega
          rw [e] at hs2
          exact Or.inr ⟨e, by omega⟩
  · obtain ⟨f, p1, rfl⟩ := hP
    have hF1 := hF.cong (σ' := σ1) (fun z hz => f z (by omega))
    unfold wX7_setNext_2
    rw [hF1.1.2]
    exact i_le (by omega) (by omega) (fun _ => h σ1 f (fun s hs => p1 s hs hs.1)) (fun g => absurd g (by omega))
end PR
