/-! the text that was handed in -/
def q_by (v : Int32) (s : Int32) : Int32 := vp_nar .byte (((v >>> (s &&& 31)) : Int32).toInt8.toInt32)
def q_sh (j : Nat) : Int32 := if j = 0 then 24 else if j = 1 then 16 else if j = 2 then 8 else if j = 3 then 0 else -8
theorem q_sh_n : ∀ j, j < 4 → ¬ q_sh j < 0 ∧ q_sh j + (-8) = q_sh (j + 1) := by decide
theorem q_by_b (v s : Int32) : -128 ≤ (q_by v s).toInt ∧ (q_by v s).toInt ≤ 127 := by
  have e : q_by v s = (((v >>> (s &&& 31)) : Int32).toInt8.toInt32).toInt8.toInt32 := rfl
  rw [e, Int8.toInt_toInt32]
  have h1 := Int8.le_toInt (((v >>> (s &&& 31)) : Int32).toInt8.toInt32).toInt8
  have h2 := Int8.toInt_lt (((v >>> (s &&& 31)) : Int32).toInt8.toInt32).toInt8
  omega
def x_ft (σ σ' : x_S) : Prop := (∀ z, z ≠ 1 → z ≠ 2 → σ' z = σ z) ∧ ∀ i, i ≠ 1 → σ' 1 i = σ 1 i
def m_ft (ρ ρ' : x_S) : Prop := (∀ z, z ≠ 0 → z ≠ 21 → ρ' z = ρ z) ∧ ∀ i, i ≠ 31 → i ≠ 5 → ρ' 0 i = ρ 0 i
theorem x_ft.tr {σ σ1 σ2 : x_S} (h1 : x_ft σ σ1) (h2 : x_ft σ1 σ2) : x_ft σ σ2 := ⟨fun z a b => (h2.1 z a b).trans (h1.1 z a b), fun z a => (h2.2 z a).trans (h1.2 z a)⟩
theorem m_ft.tr {ρ ρ1 ρ2 : x_S} (h1 : m_ft ρ ρ1) (h2 : m_ft ρ1 ρ2) : m_ft ρ ρ2 := ⟨fun z a b => (h2.1 z a b).trans (h1.1 z a b), fun z a b => (h2.2 z a b).trans (h1.2 z a b)⟩
theorem x_ft.rf (σ : x_S) : x_ft σ σ := ⟨fun _ _ _ => rfl, fun _ _ => rfl⟩
section TX
variable {N C : g_F} {w : Nat → Nat} {σ ρ : x_S} {τ θ : x_L}
theorem g_R.ft {σ' ρ' : x_S} {θ' : x_L} (h : g_R σ τ ρ θ) (f : x_ft σ σ') (g : m_ft ρ ρ') (ho : g_Tx σ' ρ') : g_R σ' τ ρ' θ' := by
  obtain ⟨N, C, w, ⟨h1, h2, h3, h4, h5, h6, h7⟩, hM, ⟨P, n, l, k, g1⟩, g2, g3, g4⟩ := h
  refine ⟨N, C, w, ⟨h1, h2, ?_, h4.cong (fun z hz => f.1 z (by omega) (by omega)), h5.cong (fun z hz => f.1 z (by omega) (by omega)), h6.cong (fun z a c => f.1 z (by omega) (by omega)) (by rw [f.1 33 (by omega) (by omega)]), h7.cong (f.1 28 (by omega) (by omega))⟩, ⟨hM.1, hM.2.1, hM.2.2.1.cong (g.1 3 (by omega) (by omega)), hM.2.2.2.cong (g.1 1 (by omega) (by omega))⟩, ⟨P, n, l, k, g1.fr (fun z a c => f.1 z (by omega) (by omega)) (g.1 1 (by omega) (by omega)) (g.2 2 (by omega) (by omega)) (g.2 3 (by omega) (by omega))⟩, g2.fr (fun z a c => f.1 z (by omega) (by omega)) (g.1 1 (by omega) (by omega)) (g.1 2 (by omega) (by omega)), ho, ?_⟩
  · unfold f_F at h3 ⊢
    rw [f.1 3 (by omega) (by omega), f.1 4 (by omega) (by omega), f.1 5 (by omega) (by omega), f.1 6 (by omega) (by omega), f.1 7 (by omega) (by omega), f.1 8 (by omega) (by omega), f.1 9 (by omega) (by omega), f.1 10 (by omega) (by omega), f.1 11 (by omega) (by omega), f.1 12 (by omega) (by omega)]
    exact h3
  · unfold g_Ou at g4 ⊢
    rw [f.1 84 (by omega) (by omega), f.1 85 (by omega) (by omega), g.1 20 (by omega) (by omega), g.2 29 (by omega) (by omega)]
    exact g4
theorem sX_append {v : Int32} {n : Nat} (hn : n + 4 ≤ 1500) (h0 : σ 1 1 = nI n) {Q : x_S → x_L → Prop} (h : ∀ σ' : x_S, x_ft σ σ' → σ' 1 1 = nI (n + 4) → (∀ k, k < n → σ' 2 k = σ 2 k) → (∀ j, j < 4 → σ' 2 (n + j) = q_by v (q_sh j)) → Q σ' τ) : wX9_append v σ τ Q := by
  unfold wX9_append
  refine x_S2 (fun i σ' τ' => x_ft σ σ' ∧ σ' 1 1 = nI (n + i) ∧ (∀ k, k < n → σ' 2 k = σ 2 k) ∧ (∀ j, j < i → σ' 2 (n + j) = q_by v (q_sh j)) ∧ τ' = τ) (fun _ => v) q_sh (lo := 0) (n := 4) (Nat.zero_le _) (fun K i σ' τ' _ hi hP hK => ?_) (fun K σ' τ' hP => ?_) ⟨x_ft.rf _, h0, fun _ _ => rfl, fun j hj => absurd hj (Nat.not_lt_zero _), rfl⟩ rfl rfl
  · obtain ⟨f, p1, p2, p3, rfl⟩ := hP
    obtain ⟨q1, q2⟩ := q_sh_n i hi
    unfold wX9_append_3 wX9_append_46
    rw [p1, q2, i_cl (by omega)]
    refine ⟨fun g => absurd g q1, fun _ => i_le (a := 1500) (by omega) (by omega) (fun g => absurd g (by omega)) (fun _ => ⟨i_in (by omega) (by omega), ?_⟩)⟩
    rw [x_up_n (show (1 : Nat) ≠ 2 by omega), p1]
    refine hK _ _ ⟨⟨fun z a b => by rw [x_up_n a, x_up_n b]; exact f.1 z a b, fun j hj => by rw [x_up_sn hj, x_up_n (show (1 : Nat) ≠ 2 by omega)]; exact f.2 j hj⟩, ?_, fun k hk => ?_, fun j hj => ?_, rfl⟩
    · rw [x_up_ss]
      exact nI_add _ 1
    · rw [x_up_n (show (2 : Nat) ≠ 1 by omega), x_up_sn (by omega)]
      exact p2 k hk
    · rw [x_up_n (show (2 : Nat) ≠ 1 by omega), x_up_i]
      by_cases e : j = i
      · subst e
        rw [if_pos rfl]
        rfl
      · rw [if_neg (by omega)]
        exact p3 j (by omega)
  · obtain ⟨f, p1, p2, p3, rfl⟩ := hP
    unfold wX9_append_3 wX9_append_46
    exact ⟨fun _ => h σ' f p1 p2 p3, fun g => absurd (by decide) g⟩
theorem sM_append {v : Int32} {n : Nat} (hn : n + 4 ≤ 1500) (h0 : ρ 0 31 = nI n) {Q : x_S → x_L → Prop} (h : ∀ ρ' : x_S, m_ft ρ ρ' → ρ' 0 31 = nI (n + 4) → (∀ k, k < n → ρ' 21 k = ρ 21 k) → (∀ j, j < 4 → ρ' 21 (n + j) = q_by v (q_sh j)) → Q ρ' θ) : wX11_appendBytes v ρ θ Q := by
  unfold wX11_appendBytes
  refine x_S2 (fun i ρ' θ' => m_ft ρ ρ' ∧ ρ' 0 31 = nI (n + i) ∧ (∀ k, k < n → ρ' 21 k = ρ 21 k) ∧ (∀ j, j < i → ρ' 21 (n + j) = q_by v (q_sh j)) ∧ θ' = θ) (fun _ => v) q_sh (lo := 0) (n := 4) (Nat.zero_le _) (fun K i ρ' θ' _ hi hP hK => ?_) (fun K ρ' θ' hP => ?_) ⟨⟨fun _ _ _ => rfl, fun _ _ _ => rfl⟩, h0, fun _ _ => rfl, fun j hj => absurd hj (Nat.not_lt_zero _), rfl⟩ rfl rfl
  · obtain ⟨f, p1, p2, p3, rfl⟩ := hP
    obtain ⟨q1, q2⟩ := q_sh_n i hi
    unfold wX11_appendBytes_3
    rw [p1, q2, i_cl (by omega)]
    refine ⟨fun g => absurd g q1, fun _ => ⟨i_in (by omega) (by omega), ?_⟩⟩
    rw [x_up_n (show (0 : Nat) ≠ 21 by omega), p1]
    refine hK _ _ ⟨⟨fun z a b => by rw [x_up_n a, x_up_n b]; exact f.1 z a b, fun j hj hj2 => by rw [x_up_sn hj, x_up_n (show (0 : Nat) ≠ 21 by omega)]; exact f.2 j hj hj2⟩, ?_, fun k hk => ?_, fun j hj => ?_, rfl⟩
    · rw [x_up_ss]
      exact nI_add _ 1
    · rw [x_up_n (show (21 : Nat) ≠ 0 by omega), x_up_sn (by omega)]
      exact p2 k hk
    · rw [x_up_n (show (21 : Nat) ≠ 0 by omega), x_up_i]
      by_cases e : j = i
      · subst e
        rw [if_pos rfl]
        rfl
      · rw [if_neg (by omega)]
        exact p3 j (by omega)
  · obtain ⟨f, p1, p2, p3, rfl⟩ := hP
    unfold wX11_appendBytes_3
    exact ⟨fun _ => h ρ' f p1 p2 p3, fun g => absurd (by decide) g⟩
/-- the text part that both have -/
def g_Tn (n : Nat) (σ ρ : x_S) : Prop := σ 1 1 = nI n ∧ ρ 0 31 = nI n ∧ (∀ i, i < n → σ 2 i = ρ 21 i ∧ -128 ≤ (σ 2 i).toInt ∧ (σ 2 i).toInt ≤ 127)
theorem g_Tn.ap {n : Nat} (h : g_Tn n σ ρ) {σ' ρ' : x_S} {v : Int32} (a1 : σ' 1 1 = nI (n + 4)) (a2 : ∀ k, k < n → σ' 2 k = σ 2 k) (a3 : ∀ j, j < 4 → σ' 2 (n + j) = q_by v (q_sh j)) (b1 : ρ' 0 31 = nI (n + 4)) (b2 : ∀ k, k < n → ρ' 21 k = ρ 21 k) (b3 : ∀ j, j < 4 → ρ' 21 (n + j) = q_by v (q_sh j)) : g_Tn (n + 4) σ' ρ' := by
  refine ⟨a1, b1, fun i hi => ?_⟩
  by_cases g : i < n
  · rw [a2 i g, b2 i g]
    exact h.2.2 i g
  · have e : i = n + (i - n) := by omega
    rw [e, a3 _ (by omega), b3 _ (by omega)]
    exact ⟨rfl, q_by_b _ _⟩
theorem z_append {Q : x_S → x_L → Prop} {n : Nat} {v : Int32} (hn : n + 4 ≤ 1500) (h : g_Tn n σ ρ) (hQ : ∀ σ' : x_S, x_ft σ σ' → σ' 1 1 = nI (n + 4) → (∀ (R : x_S → x_L → Prop), (∀ ρ' : x_S, m_ft ρ ρ' → g_Tn (n + 4) σ' ρ' → R ρ' θ) → wX11_appendBytes v ρ θ R) → Q σ' τ) : wX9_append v σ τ Q := sX_append hn h.1 (fun σ' f a1 a2 a3 => hQ σ' f a1 (fun R hr => sM_append hn h.2.1 (fun ρ' g b1 b2 b3 => hr ρ' g (h.ap a1 a2 a3 b1 b2 b3))))
end TX
