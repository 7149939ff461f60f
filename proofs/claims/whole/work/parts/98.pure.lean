/-! class and reference keep to g_R, call by call, and begin with it -/
theorem g_ok : z_ok g_R := ⟨z_0, z_1, z_2, z_3, z_4, z_5, z_6, z_7, z_8, z_9, z_10, z_11, z_12, z_13, z_14, z_15, z_16, z_17, z_18, z_19, z_20, z_21, z_22, z_23, z_24, z_25, z_26, z_27, z_28, z_29, z_30, z_31, z_32, z_33, z_34, z_35, z_36, z_37, z_38, z_39, z_40, z_41, z_42, z_43, z_44, z_45⟩
theorem g_init : g_R z_s0 z_t0 z_r0 z_t0 := by
  have no : ∀ {P : Prop} (s : Nat), g_is (fun _ _ => 0) s → P := fun s h => absurd h.1 (Nat.not_lt_zero _)
  have hE : g_E (fun _ _ => 0) (fun _ => 0) := ⟨fun r i hr => absurd hr (Nat.not_lt_zero _), fun s hs => no s hs, fun r i j hr => absurd hr (Nat.not_lt_zero _)⟩
  have hWN : g_WN (fun _ _ => 0) := ⟨⟨Nat.zero_le _, Nat.zero_le _⟩, fun r hr => absurd hr (Nat.not_lt_zero _), fun t ht => absurd ht (Nat.not_lt_zero _), fun t q ht => absurd ht (Nat.not_lt_zero _)⟩
  have hWC : g_WC (fun _ _ => 0) (fun _ _ => 0) := ⟨fun t ht => absurd ht (Nat.not_lt_zero _), fun t q ht => absurd ht (Nat.not_lt_zero _)⟩
  have hbg : g_bg (fun _ _ => 0) 0 = 0 := g_bg_0 _
  have hall : g_all (fun _ _ => 0) (g_fuel (fun _ _ => 0) (fun _ _ => 0)) = 0 := g_sum_zero (fun s _ => if_neg (fun h => absurd h.1 (Nat.not_lt_zero _)))
  refine ⟨fun _ _ => 0, fun _ _ => 0, fun _ => 0, ⟨hWN, hWC, ⟨⟨rfl, rfl⟩, fun r hr => absurd hr (Nat.not_lt_zero _), fun t ht => absurd ht (Nat.not_lt_zero _), fun s hs => no s hs⟩, ⟨fun t ht => absurd ht (Nat.not_lt_zero _), fun s hs => no s hs, fun r hr => ?_, fun s s' hs => no s hs⟩, ⟨fun t ht => absurd ht (Nat.not_lt_zero _), fun s hs => no s hs⟩, ⟨fun s hs => no s hs, fun i hi => ?_, hE, fun r hr => absurd hr (Nat.not_lt_zero _), fun s hs => no s hs, ?_⟩, ⟨fun _ => 0, hE, fun i hi => ?_⟩⟩, ⟨hWN, hWC, ⟨⟨rfl, rfl⟩, fun r hr => absurd hr (Nat.not_lt_zero _), fun t ht => absurd ht (Nat.not_lt_zero _), fun s hs => no s hs⟩, ⟨fun t ht => absurd ht (Nat.not_lt_zero _), fun s hs => no s hs⟩⟩, ⟨⟨fun _ _ _ => 0, 0, 0, 0, ⟨by omega, by omega, by omega⟩, ⟨rfl, rfl, rfl, rfl⟩, fun k hk => absurd hk (Nat.not_lt_zero _)⟩, fun i hi => Or.inl ?_, ⟨0, by omega, rfl, rfl, fun i hi => absurd hi (Nat.not_lt_zero _), rfl, rfl⟩, ⟨0, by omega, rfl, rfl, fun i hi => absurd hi (Nat.not_lt_zero _)⟩⟩⟩
  · have e : r = 0 := Nat.le_zero.mp hr
    rw [e, hbg]
    rfl
  · have hi2 : i < g_bg (fun _ _ => 0) 0 := hi
    rw [hbg] at hi2
    exact absurd hi2 (Nat.not_lt_zero _)
  · rw [hall]
    rfl
  · have hi2 : i < g_bg (fun _ _ => 0) 0 := hi
    rw [hbg] at hi2
    exact absurd hi2 (Nat.not_lt_zero _)
  · rcases (show i = 0 ∨ i = 1 by omega) with rfl | rfl
    · exact ⟨rfl, rfl⟩
    · exact ⟨rfl, rfl⟩
