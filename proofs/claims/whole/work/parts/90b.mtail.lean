section ML
variable {N : g_F} {σ ρ : x_S} {τ θ : x_L}
theorem sM_loadTail (hN : g_WN N) (hD : m_Dr N ρ) {v : Int32} (hv : ¬ v = 0) {Q : Int32 → x_S → x_L → Prop} (h : ∀ ρ' : x_S, (∀ z, 3 < z → ρ' z = ρ z) → (∀ i, i ≠ 3 → i ≠ 31 → ρ' 0 i = ρ 0 i) → ρ' 0 3 = 0 → ρ' 0 31 = 0 → ρ' 2 0 = 0 → ρ' 2 1 = 0 → m_F N ρ' → m_C N (g_C0 N) 0 ρ' → Q (nI (N 0 1)) ρ' θ) : wX11_load_48 Q v ρ θ := by
  have hb := hN.1
  unfold wX11_load_48
  refine ⟨fun _ => ?_, fun g => absurd g hv⟩
  refine x_S1 (fun i ρ' θ' => (∀ z, z ≠ 0 → z ≠ 3 → ρ' z = ρ z) ∧ (∀ j, j ≠ 31 → ρ' 0 j = ρ 0 j) ∧ ρ' 0 31 = 0 ∧ (∀ j, ρ' 3 j = if j < i then ρ 3 (290 + j) else ρ 3 j) ∧ θ' = θ) (fun i => nI i) (lo := 0) (n := 290) (Nat.zero_le _) (fun K i ρ1 θ1 _ hi hP hK => ?_) (fun K ρ1 θ1 hP => ?_) ⟨fun z a _ => x_up_n a, fun j hj => x_up_sn hj, x_up_ss _ _ _ _, fun j => by rw [if_neg (Nat.not_lt_zero _), x_up_n (show (3 : Nat) ≠ 0 by omega)], rfl⟩ rfl
  · obtain ⟨f1, f2, f3, f4, rfl⟩ := hP
    unfold wX11_load_62
    refine i_le (a := 290) (by omega) (by omega) (fun g => absurd g (by omega)) (fun _ => ?_)
    rw [show (290 + nI i : Int32) = nI (290 + i) from nI_add 290 i, i_cl (by omega), i_cl (by omega), show (nI i + 1 : Int32) = nI (i + 1) from nI_add i 1]
    refine ⟨i_in (by omega) (by omega), i_in (by omega) (by omega), hK _ _ ⟨fun z a c => by rw [x_up_n c]; exact f1 z a c, fun j hj => by rw [x_up_n (show (0 : Nat) ≠ 3 by omega)]; exact f2 j hj, by rw [x_up_n (show (0 : Nat) ≠ 3 by omega)]; exact f3, fun j => ?_, rfl⟩⟩
    rw [x_up_i]
    by_cases z : j = i
    · subst z
      rw [if_pos rfl, if_pos (by omega), f4, if_neg (by omega)]
    · rw [if_neg z, f4]
      by_cases z2 : j < i
      · rw [if_pos z2, if_pos (by omega)]
      · rw [if_neg z2, if_neg (by omega)]
  · obtain ⟨f1, f2, f3, f4, rfl⟩ := hP
    unfold wX11_load_62
    refine i_le (a := 290) (b := 290) (by omega) (by omega) (fun _ => ?_) (fun g => absurd g (by omega))
    have hF : m_F N ρ1 := by
      obtain ⟨⟨h1, h2⟩, h3, h4, h5⟩ := hD
      refine ⟨⟨?_, ?_⟩, fun r hr => ?_, fun t ht => ?_, fun s hs => ?_⟩
      · rw [f4, if_pos (by omega)]
        exact h1
      · rw [f4, if_pos (by omega)]
        exact h2
      · rw [f4, if_pos (by omega), f4, if_pos (by omega), f4, if_pos (by omega), f4, if_pos (by omega)]
        exact h3 r hr
      · rw [f4, if_pos (by omega), f4, if_pos (by omega), f4, if_pos (by omega), f4, if_pos (by omega)]
        exact h4 t ht
      · have := hs.1
        rw [f4, if_pos (by omega)]
        exact h5 s hs
    refine x_S1 (fun t ρ' θ' => (∀ z, z ≠ 1 → ρ' z = ρ1 z) ∧ (∀ i, i < t → ρ' 1 i = nI (N 5 i)) ∧ (∀ s, g_is N s → s / 10 < t → ρ' 1 (12 + s) = nI 0 ∧ ρ' 1 (132 + s) = nI (min 80 (N 4 (N 9 s)))) ∧ θ' = θ1) (fun t => nI t) (lo := 0) (n := N 0 1) (Nat.zero_le _) (fun K t ρ2 θ2 _ ht hP hK => ?_) (fun K ρ2 θ2 hP => ?_) ⟨fun _ _ => rfl, fun i hi => absurd hi (Nat.not_lt_zero _), fun s _ hs => absurd hs (Nat.not_lt_zero _), rfl⟩ rfl
    · obtain ⟨k1, k2, k3, rfl⟩ := hP
      have hF2 := hF.cong (ρ' := ρ2) (k1 3 (by omega))
      have h10 := (hN.2.2.1 t ht).2.2.2.2
      unfold wX11_load_93
      rw [e_c1, hF2.1.2]
      refine i_le (by omega) (by omega) (fun g => absurd g (by omega)) (fun _ => sM_ofTruck (k := 0) (by omega) (by omega) ⟨i_in (by omega) (by omega), ?_⟩)
      rw [i_cl (by omega), show 122 + 14 * t + 0 = 122 + 14 * t from rfl, (hF2.2.2.1 t ht).1]
      refine x_S2 (fun q ρ' θ' => (∀ z, z ≠ 1 → ρ' z = ρ1 z) ∧ (∀ i, i < t + 1 → ρ' 1 i = nI (N 5 i)) ∧ (∀ s, g_is N s → s / 10 < t ∨ (s / 10 = t ∧ s % 10 < q) → ρ' 1 (12 + s) = nI 0 ∧ ρ' 1 (132 + s) = nI (min 80 (N 4 (N 9 s)))) ∧ θ' = θ2) (fun _ => nI t) (fun q => nI q) (lo := 0) (n := N 8 t) (Nat.zero_le _) (fun K2 q ρ3 θ3 _ hq hP hK2 => ?_) (fun K2 ρ3 θ3 hP => ?_) (σ := x_up ρ2 1 t (nI (N 5 t))) ⟨fun z hz => by rw [x_up_n hz]; exact k1 z hz, fun i hi => ?_, fun s hs hc => ?_, rfl⟩ rfl rfl
      · obtain ⟨r1, r2, r3, rfl⟩ := hP
        have hF3 := hF.cong (ρ' := ρ3) (r1 3 (by omega))
        obtain ⟨hs, e1, e2, b1, b2, b3⟩ := g_is_of hN ht hq
        have hrr := hN.2.1 _ (g_road_lt hN hs)
        unfold wX11_load_117
        refine sM_places hN hF3 ht (i_le (by omega) (by omega) (fun g => absurd g (by omega)) (fun _ => sM_spot ?_))
        rw [show (12 + nI (10 * t + q) : Int32) = nI (12 + (10 * t + q)) from nI_add 12 _, i_cl (by omega)]
        refine ⟨i_in (by omega) (by omega), sM_spot ?_⟩
        refine sM_limit hN (hF3.cong (x_up_n (show (3 : Nat) ≠ 1 by omega))) ht hq ?_
        refine sM_min (a := 80) (by omega) (by omega) ?_
        rw [show (132 + nI (10 * t + q) : Int32) = nI (132 + (10 * t + q)) from nI_add 132 _, i_cl (by omega), show (nI q + 1 : Int32) = nI (q + 1) from nI_add q 1]
        refine ⟨i_in (by omega) (by omega), hK2 _ _ ⟨fun z hz => by rw [x_up_n hz, x_up_n hz]; exact r1 z hz, fun i hi => by rw [x_up_sn (by omega), x_up_sn (by omega)]; exact r2 i hi, fun s hs2 hc => ?_, rfl⟩⟩
        by_cases z : s = 10 * t + q
        · subst z
          refine ⟨?_, x_up_ss _ _ _ _⟩
          rw [x_up_sn (by omega)]
          exact x_up_ss _ _ _ _
        · have h120 := g_is_lt hN hs2
          have := r3 s hs2 (by omega)
          refine ⟨?_, ?_⟩
          · rw [x_up_sn (by omega), x_up_sn (by omega)]
            exact this.1
          · rw [x_up_sn (by omega), x_up_sn (by omega)]
            exact this.2
      · obtain ⟨r1, r2, r3, rfl⟩ := hP
        unfold wX11_load_117
        refine sM_places hN (hF.cong (ρ' := ρ3) (r1 3 (by omega))) ht (i_le (by omega) (by omega) (fun _ => ?_) (fun g => absurd g (by omega)))
        rw [show (nI t + 1 : Int32) = nI (t + 1) from nI_add t 1]
        refine hK _ _ ⟨r1, r2, fun s hs hc => r3 s hs ?_, rfl⟩
        by_cases z : s / 10 < t
        · exact Or.inl z
        · have hs2 := hs.2
          have e : s / 10 = t := by omega
          rw [e] at hs2
          exact Or.inr ⟨e, hs2⟩
      · rw [x_up_i]
        by_cases z : i = t
        · rw [if_pos z, z]
        · rw [if_neg z]
          exact k2 i (by omega)
      · rw [x_up_sn (by omega), x_up_sn (by omega)]
        exact k3 s hs (by omega)
    · obtain ⟨k1, k2, k3, rfl⟩ := hP
      have hF2 := hF.cong (ρ' := ρ2) (k1 3 (by omega))
      have e0 : (0 : Int32).toNatClampNeg = 0 := rfl
      have en : vp_nar .boolean 0 = 0 := rfl
      unfold wX11_load_93
      rw [e_c1, e0, hF2.1.2, en]
      refine i_le (by omega) (by omega) (fun _ => ?_) (fun g => absurd g (by omega))
      rw [x_up_n (show (3 : Nat) ≠ 2 by omega), x_up_n (show (3 : Nat) ≠ 2 by omega), x_up_n (show (3 : Nat) ≠ 0 by omega), hF2.1.2]
      refine h _ (fun z hz => ?_) (fun i hi hi2 => ?_) ?_ ?_ ?_ ?_ (hF2.cong ?_) ⟨fun t ht => ?_, fun s hs => ?_⟩
      · rw [x_up_n (by omega), x_up_n (by omega), x_up_n (by omega), k1 z (by omega)]
        exact f1 z (by omega) (by omega)
      · rw [x_up_n (show (0 : Nat) ≠ 2 by omega), x_up_n (show (0 : Nat) ≠ 2 by omega), x_up_sn hi, k1 0 (by omega)]
        exact f2 i hi2
      · rw [x_up_n (show (0 : Nat) ≠ 2 by omega), x_up_n (show (0 : Nat) ≠ 2 by omega), x_up_ss]
      · rw [x_up_n (show (0 : Nat) ≠ 2 by omega), x_up_n (show (0 : Nat) ≠ 2 by omega), x_up_sn (by omega), k1 0 (by omega)]
        exact f3
      · rw [x_up_sn (by omega), x_up_ss]
      · rw [x_up_ss]
      · rw [x_up_n (show (3 : Nat) ≠ 2 by omega), x_up_n (show (3 : Nat) ≠ 2 by omega), x_up_n (show (3 : Nat) ≠ 0 by omega)]
      · rw [Nat.zero_add, x_up_n (show (1 : Nat) ≠ 2 by omega), x_up_n (show (1 : Nat) ≠ 2 by omega), x_up_n (show (1 : Nat) ≠ 0 by omega)]
        exact k2 t ht
      · rw [Nat.zero_add, Nat.zero_add, x_up_n (show (1 : Nat) ≠ 2 by omega), x_up_n (show (1 : Nat) ≠ 2 by omega), x_up_n (show (1 : Nat) ≠ 0 by omega)]
        exact k3 s hs hs.1
end ML
