/-! after the text: the class takes the fleet over -/
theorem x_cp_zi (σ : x_S) (k0 k1 n z i : Nat) : x_cp σ k0 0 k1 0 n z i = if z = k1 ∧ i < n then σ k0 i else σ z i := by
  by_cases e : z = k1
  · subst e
    rw [x_cp_i]
    by_cases e2 : i < n
    · rw [if_pos (by omega), if_pos ⟨rfl, e2⟩, Nat.zero_add, Nat.sub_zero]
    · rw [if_neg (by omega), if_neg (fun g => e2 g.2)]
  · rw [x_cp_n e, if_neg (fun g => e g.1)]
theorem x_cp_nn {σ : x_S} {k0 sp k1 dp n z : Nat} (h : z ≠ k1) : x_cp σ k0 sp k1 dp n z = σ z := if_neg h
section CT
variable {N : g_F} {σ ρ : x_S} {τ θ : x_L}
theorem sX_copyNet (hN : g_WN N) (hD : f_D N σ) {Q : x_S → x_L → Prop} (h : ∀ σ' : x_S, (∀ z, z < 3 ∨ 12 < z → σ' z = σ z) → f_F N σ' → Q σ' τ) : wX1_copy σ τ Q := by
  obtain ⟨⟨h1, h2⟩, h3, h4, h5⟩ := hD
  have hb := hN.1
  have e0 : (0 : Int32).toNatClampNeg = 0 := rfl
  have e30 : (30 : Int32).toNatClampNeg = 30 := rfl
  have e12 : (12 : Int32).toNatClampNeg = 12 := rfl
  have e120 : (120 : Int32).toNatClampNeg = 120 := rfl
  unfold wX1_copy
  rw [e0, e30, e12, e120]
  refine h _ (fun z hz => ?_) ⟨⟨?_, ?_⟩, fun r hr => ⟨?_, ?_, ?_, ?_⟩, fun t ht => ⟨?_, ?_, ?_, ?_⟩, fun s hs => ?_⟩
  · rw [x_cp_nn (by omega), x_cp_nn (by omega), x_cp_nn (by omega), x_cp_nn (by omega), x_cp_nn (by omega), x_up_n (by omega), x_cp_nn (by omega), x_cp_nn (by omega), x_cp_nn (by omega), x_cp_nn (by omega), x_up_n (by omega)]
  · simp [x_cp_zi, x_up_zi]
    exact h1
  · simp [x_cp_zi, x_up_zi]
    exact h2
  · simp [x_cp_zi, x_up_zi, show r < 30 by omega]
    exact (h3 r hr).1
  · simp [x_cp_zi, x_up_zi, show r < 30 by omega]
    exact (h3 r hr).2.1
  · simp [x_cp_zi, x_up_zi, show r < 30 by omega]
    exact (h3 r hr).2.2.1
  · simp [x_cp_zi, x_up_zi, show r < 30 by omega]
    exact (h3 r hr).2.2.2
  · simp [x_cp_zi, x_up_zi, show t < 12 by omega]
    exact (h4 t ht).1
  · simp [x_cp_zi, x_up_zi, show t < 12 by omega]
    exact (h4 t ht).2.1
  · simp [x_cp_zi, x_up_zi, show t < 12 by omega]
    exact (h4 t ht).2.2.1
  · simp [x_cp_zi, x_up_zi, show t < 12 by omega]
    exact (h4 t ht).2.2.2
  · have hs120 : s < 120 := g_is_lt hN hs
    simp [x_cp_zi, x_up_zi, hs120]
    exact h5 s hs
/-- the choices at the start -/
def g_C0 (N : g_F) : g_F := fun k i => if k = 0 then N 5 i else if k = 1 then 0 else min 80 (N 4 (N 9 i))
theorem g_C0_WC (hN : g_WN N) : g_WC N (g_C0 N) := by
  refine ⟨fun t ht => (hN.2.2.1 t ht).1, fun t q ht hq => ⟨Nat.zero_le _, ?_⟩⟩
  have hr := hN.2.1 _ (hN.2.2.2 t q ht hq)
  show 40 ≤ min 80 (N 4 (N 9 (10 * t + q))) ∧ min 80 (N 4 (N 9 (10 * t + q))) ≤ N 4 (N 9 (10 * t + q))
  omega
theorem sX_beginPlan (hN : g_WN N) (hF : f_F N σ) (hR : f_R N σ τ) {w : Nat → Nat} (hw : ∀ i, i < g_bg N (N 0 0) → σ 28 i = nI (w i)) (hE : g_E N w) {Q : x_S → x_L → Prop} (h : ∀ (σ' : x_S) (w' : Nat → Nat), (∀ z, z < 33 ∨ 45 < z → σ' z = σ z) → f_C N (g_C0 N) 33 σ' → f_A N (g_C0 N) 33 w' σ' → Q σ' τ) : wX6_begin 33 σ τ Q := by
  have hb := hN.1
  have e0 : (0 : Int32).toNatClampNeg = 0 := rfl
  have e12 : (12 : Int32).toNatClampNeg = 12 := rfl
  have e120 : (120 : Int32).toNatClampNeg = 120 := rfl
  have hbg := g_bg_b N (N 0 0)
  unfold wX6_begin
  rw [e0, e12]
  refine x_S1 (fun t σ' τ' => (∀ z, z < 34 ∨ 36 < z → σ' z = σ z) ∧ (∀ i, i < N 0 1 → σ' 34 i = nI (N 5 i)) ∧ (∀ s, g_is N s → s / 10 < t → σ' 35 s = nI 0 ∧ σ' 36 s = nI (min 80 (N 4 (N 9 s)))) ∧ τ' = τ) (fun t => nI t) (lo := 0) (n := N 0 1) (Nat.zero_le _) (fun K t σ1 τ1 _ ht hP hK => ?_) (fun K σ1 τ1 hP => ?_) ⟨fun z hz => x_cp_nn (by omega), fun i hi => ?_, fun s _ hs => absurd hs (Nat.not_lt_zero _), rfl⟩ rfl
  · obtain ⟨f, p1, p2, rfl⟩ := hP
    have hF1 := hF.cong (σ' := σ1) (fun z hz => f z (by omega))
    have h10 := (hN.2.2.1 t ht).2.2.2.2
    unfold wX6_begin_20
    rw [hF1.1.2]
    refine i_le (by omega) (by omega) (fun g => absurd g (by omega)) (fun _ => ?_)
    rw [show (nI t * 10 : Int32) = nI (t * 10) from nI_mul t 10]
    refine x_S2 (fun q σ' τ' => (∀ z, z < 34 ∨ 36 < z → σ' z = σ z) ∧ (∀ i, i < N 0 1 → σ' 34 i = nI (N 5 i)) ∧ (∀ s, g_is N s → s / 10 < t ∨ (s / 10 = t ∧ s < q) → σ' 35 s = nI 0 ∧ σ' 36 s = nI (min 80 (N 4 (N 9 s)))) ∧ τ' = τ1) (fun _ => nI t) (fun q => nI q) (lo := t * 10) (n := t * 10 + N 8 t) (by omega) (fun K2 q σ2 τ2 hlo hq hP hK2 => ?_) (fun K2 σ2 τ2 hP => ?_) ⟨f, p1, fun s hs hc => p2 s hs (by omega), rfl⟩ rfl rfl
    · obtain ⟨f2, r1, r2, rfl⟩ := hP
      have hF2 := hF.cong (σ' := σ2) (fun z hz => f2 z (by omega))
      have hR30 : σ2 30 t = nI (10 * t + N 8 t) := by rw [f2 30 (by omega)]; exact hR.1 t ht
      have hs : g_is N q := by
        have := (g_is_of hN ht (show q - 10 * t < N 8 t by omega)).1
        rw [show 10 * t + (q - 10 * t) = q by omega] at this
        exact this
      have hrd := g_road_lt hN hs
      have hrr := hN.2.1 _ hrd
      have hq12 : σ2 12 q = nI (N 9 q) := hF2.2.2.2 q hs
      have h7 : σ2 7 (N 9 q) = nI (N 4 (N 9 q)) := (hF2.2.1 _ hrd).2.2.2
      unfold wX6_begin_36
      rw [i_cl (show t < 1000000000 by omega), i_cl (show q < 1000000000 by omega), hR30, x_up_n (show (12 : Nat) ≠ 33 + 2 by omega), hq12, i_cl (show N 9 q < 1000000000 by omega), x_up_n (show (7 : Nat) ≠ 33 + 2 by omega), h7, show (nI q + 1 : Int32) = nI (q + 1) from nI_add q 1]
      refine ⟨i_in (by omega) (by omega), i_le (by omega) (by omega) (fun g => absurd g (by omega)) (fun _ => ⟨i_in (by omega) (by omega), i_in (by omega) (by omega), ?_⟩)⟩
      rw [show (80 : Int32) = nI 80 from rfl, nI_min (a := 80) (b := N 4 (N 9 q)) (by omega) (by omega)]
      refine hK2 _ _ ⟨fun z hz => by rw [x_up_n (by omega), x_up_n (by omega)]; exact f2 z hz, fun i hi => by rw [x_up_n (by omega), x_up_n (by omega)]; exact r1 i hi, fun s hs2 hc => ?_, rfl⟩
      by_cases z : s = q
      · subst z
        refine ⟨?_, ?_⟩
        · rw [x_up_n (by omega)]
          exact x_up_ss _ _ _ _
        · exact x_up_ss _ _ _ _
      · have := r2 s hs2 (by omega)
        refine ⟨?_, ?_⟩
        · rw [x_up_n (by omega), x_up_sn z]
          exact this.1
        · rw [x_up_sn z, x_up_n (by omega)]
          exact this.2
    · obtain ⟨f2, r1, r2, rfl⟩ := hP
      have hR30 : σ2 30 t = nI (10 * t + N 8 t) := by rw [f2 30 (by omega)]; exact hR.1 t ht
      unfold wX6_begin_36
      rw [i_cl (show t < 1000000000 by omega), hR30, show (nI t + 1 : Int32) = nI (t + 1) from nI_add t 1]
      refine ⟨i_in (by omega) (by omega), i_le (by omega) (by omega) (fun _ => hK _ _ ⟨f2, r1, fun s hs hc => r2 s hs ?_, rfl⟩) (fun g => absurd g (by omega))⟩
      by_cases z : s / 10 < t
      · exact Or.inl z
      · have hs2 := hs.2
        have e : s / 10 = t := by omega
        rw [e] at hs2
        exact Or.inr ⟨e, by omega⟩
  · obtain ⟨f, p1, p2, rfl⟩ := hP
    have hF1 := hF.cong (σ' := σ1) (fun z hz => f z (by omega))
    unfold wX6_begin_20
    rw [hF1.1.2, e0, e120]
    refine i_le (by omega) (by omega) (fun _ => ?_) (fun g => absurd g (by omega))
    have f2 : ∀ z, z ≠ 39 → (x_cp σ1 28 0 (33 + 6) 0 120) z = σ1 z := fun z hz => x_cp_nn (by omega)
    have hC2 : f_C N (g_C0 N) 33 (x_cp σ1 28 0 (33 + 6) 0 120) := ⟨fun t ht => by rw [f2 _ (by omega)]; exact p1 t ht, fun s hs => by rw [f2 _ (by omega), f2 _ (by omega)]; exact p2 s hs hs.1⟩
    refine sX_arrange (by omega) hN (g_C0_WC hN) (hF1.cong (fun z hz => f2 z (by omega))) hC2 (hR.cong (fun z hz => by rw [f2 z (by omega)]; exact f z (by omega))) (w := w) (fun i hi => ?_) hE (fun σ3 w3 f3 g3 hA => h σ3 w3 (fun z hz => ?_) (hC2.cong (fun z hz => f3 z (by omega) (by omega))) hA)
    · show x_cp σ1 28 0 (33 + 6) 0 120 39 i = _
      rw [x_cp_zi, if_pos ⟨rfl, by omega⟩, f 28 (by omega)]
      exact hw i hi
    · rw [f3 z (by omega) (by omega), f2 z (by omega)]
      exact f z (by omega)
  · rw [x_cp_zi, if_pos ⟨rfl, by omega⟩]
    exact (hF.2.2.1 i hi).1
end CT
