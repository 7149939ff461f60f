/-! the class arranges a plan: all roads -/
/-- a sum over all stops -/
def g_all (N : g_F) (f : Nat → Nat) : Nat := g_sum (fun s => if s / 10 < N 0 1 ∧ s % 10 < N 8 (s / 10) then f s else 0) 120
theorem g_all_row {N : g_F} {w : Nat → Nat} (hN : g_WN N) (hE : g_E N w) (f : Nat → Nat) : g_all N f = g_sum (fun i => f (w i)) (g_bg N (N 0 0)) := by
  unfold g_all
  rw [g_sum_enum (row := w) (m := g_bg N (N 0 0)) (fun i hi => g_is_lt hN (hE.is hi)) (fun i j hi hj q => hE.inj hi hj q) (fun s hs hf => ?_)]
  · exact g_sum_congr (fun i hi => if_pos (hE.is hi))
  · refine hE.ex hN ?_
    apply Classical.byContradiction
    intro hn
    exact hf (if_neg hn)
/-- an arranged plan -/
def f_A (N C : g_F) (b : Nat) (w : Nat → Nat) (σ : x_S) : Prop := f_T N C b σ ∧ f_W b (g_bg N (N 0 0)) w σ ∧ g_E N w ∧ (∀ r, r < N 0 0 → ∃ e k, g_O N C w r k e ∧ e k = g_bg N (r + 1)) ∧ (∀ s, g_is N s → f_K N C b s σ) ∧ σ b 14 = nI (g_all N (g_fuel N C))
theorem f_A.cong {N C : g_F} {b : Nat} {w : Nat → Nat} {σ σ' : x_S} (h : f_A N C b w σ) (e : ∀ z, b + 4 ≤ z → z ≤ b + 12 → σ' z = σ z) (e2 : σ' b 14 = σ b 14) : f_A N C b w σ' := by
  obtain ⟨h1, h2, h3, h4, h5, h6⟩ := h
  refine ⟨h1.cong (fun z hz => e z (by omega) (by omega)), fun i hi => by rw [e (b + 6) (by omega) (by omega)]; exact h2 i hi, h3, h4, fun s hs => (h5 s hs).cong (fun z a c => by rw [e z (by omega) (by omega)]), by rw [e2]; exact h6⟩
section XA
variable {N C : g_F} {b : Nat} {σ : x_S} {τ : x_L}
theorem sX_arrange (hb : 33 ≤ b) (hN : g_WN N) (hW : g_WC N C) (hF : f_F N σ) (hC : f_C N C b σ) (hR : f_R N σ τ) {w : Nat → Nat} (hw : f_W b (g_bg N (N 0 0)) w σ) (hE : g_E N w) {Q : x_S → x_L → Prop}
    (h : ∀ (σ' : x_S) (w' : Nat → Nat), (∀ z, z ≠ b → ¬ (b + 4 ≤ z ∧ z ≤ b + 12) → σ' z = σ z) → (∀ i, i ≠ 14 → σ' b i = σ b i) → f_A N C b w' σ' → Q σ' τ) : wX6_arrange b σ τ Q := by
  have n1 := hN.1.1
  have n2 := hN.1.2
  unfold wX6_arrange
  refine x_l1_I (fun k a σ' τ' => ∃ t, a = nI t ∧ t + k = N 0 1 ∧ τ = τ' ∧ (∀ z, z ≠ b + 4 → z ≠ b + 5 → σ' z = σ z) ∧ ∀ s, g_is N s → s / 10 < t → σ' (b + 4) s = nI (g_en N C s) ∧ σ' (b + 5) s = nI (g_lv N C s)) ?_ (N 0 1) ⟨0, rfl, Nat.zero_add _, rfl, fun _ _ _ => rfl, fun s _ hs => absurd hs (Nat.not_lt_zero _)⟩
  rintro k a σ1 τ' ⟨t, rfl, hk, rfl, f1, h1⟩ K hK
  have hF1 := hF.cong (σ' := σ1) (fun z hz => f1 z (by omega) (by omega))
  have hR1 := hR.cong (σ' := σ1) (fun z hz => f1 z (by omega) (by omega))
  have hC1 := hC.cong (σ' := σ1) (fun z hz => f1 z (by omega) (by omega))
  unfold wX6_arrange_2
  rw [hF1.1.2]
  refine i_le (by omega) (by omega) (fun g => ?_) (fun g => ?_)
  · have et : t = N 0 1 := by omega
    have hT : f_T N C b σ1 := fun s hs => h1 s hs (by rw [et]; exact hs.1)
    refine x_l1_I (fun k a σ2 τ' => ∃ (r : Nat) (w2 : Nat → Nat), a = nI r ∧ r + k = N 0 0 ∧ τ = τ' ∧ f_fr b σ1 σ2 ∧ f_W b (g_bg N (N 0 0)) w2 σ2 ∧ g_E N w2 ∧ (∀ r', r' < r → ∃ e k, g_O N C w2 r' k e ∧ e k = g_bg N (r' + 1)) ∧ σ2 b 14 = nI (g_sum (fun i => g_fuel N C (w2 i)) (g_bg N r)) ∧ (∀ i, i < g_bg N r → f_K N C b (w2 i) σ2)) ?_ (N 0 0) ⟨0, w, rfl, Nat.zero_add _, rfl, ⟨fun z a _ => x_up_n a, fun i hi => x_up_sn hi⟩, fun j hj => by rw [x_up_n (show b + 6 ≠ b by omega), f1 (b + 6) (by omega) (by omega)]; exact hw j hj, hE, fun r' hr' => absurd hr' (Nat.not_lt_zero _), by rw [x_up_ss, g_bg_0]; rfl, fun i hi => absurd hi (by rw [g_bg_0]; exact Nat.not_lt_zero _)⟩
    rintro k a σ2 τ' ⟨r, w2, rfl, hk2, rfl, fr, hw2, hE2, hO2, hf2, hK2⟩ K2 hKK
    have hF2 := hF1.cong (σ' := σ2) (fun z hz => fr.1 z (by omega) (by omega))
    have hR2 := hR1.cong (σ' := σ2) (fun z hz => fr.1 z (by omega) (by omega))
    have hC2 := hC1.cong (σ' := σ2) (fun z hz => fr.1 z (by omega) (by omega))
    have hT2 := hT.cong (σ' := σ2) (fun z hz => fr.1 z (by omega) (by omega))
    unfold wX6_arrange_31
    rw [hF2.1.1]
    refine i_le (by omega) (by omega) (fun g2 => ?_) (fun g2 => ?_)
    · have er : r = N 0 0 := by omega
      subst er
      refine h σ2 w2 (fun z a c => by rw [fr.1 z a (by omega), f1 z (by omega) (by omega)]) (fun i hi => by rw [fr.2 i hi, f1 b (by omega) (by omega)]) ⟨hT2, hw2, hE2, hO2, fun s hs => ?_, by rw [hf2, ← g_all_row hN hE2 (g_fuel N C)]⟩
      obtain ⟨i, i1, i2⟩ := hE2.ex hN hs
      rw [← i2]
      exact hK2 i i1
    · have b0 := g_bg_b N r
      have b1 := g_bg_b N (r + 1)
      have bm := g_bg_mono N (show r ≤ r + 1 by omega)
      have be := g_bg_mono N (show r + 1 ≤ N 0 0 from g2)
      have bn := g_bg_b N (N 0 0)
      rw [show (nI r + 1 : Int32) = nI (r + 1) from nI_add r 1]
      refine ⟨i_in (by omega) (by omega), i_in (by omega) (by omega), ?_⟩
      rw [i_cl (by omega), i_cl (by omega), hR2.2.2.1 r (by omega), hR2.2.2.1 (r + 1) (by omega)]
      refine sX_sortByTime hb hN hW hC2 hT2 bn bm be hw2 (fun i _ a2 => hE2.is (by omega)) (fun σ3 w3 s1 s2 s3 s4 => ?_)
      have hE3 : g_E N w3 := hE2.perm g2 s3
      have low : ∀ i, i < g_bg N r → w3 i = w2 i := fun i hi => s3.1 i (by omega)
      refine sX_platoons hb hN hW g2 (hF2.cong (fun z hz => s1 z (by omega))) (hC2.cong (fun z hz => s1 z (by omega))) (hR2.cong (fun z hz => s1 z (by omega))) (hT2.cong (fun z hz => s1 z (by omega))) s2 hE3 ?_ (fun i hi => ?_) s4 (fun σ4 w4 e k4 fr4 hw4 hE4 out4 hO4 he4 hf4 hK4 => ?_)
      · rw [s1 b (by omega), hf2]
        congr 1
        exact g_sum_congr (fun i hi => by rw [low i hi])
      · rw [low i hi]
        exact (hK2 i hi).cong (fun z a1 a2 => by rw [s1 z (by omega)])
      · rw [show (nI r + 1 : Int32) = nI (r + 1) from nI_add r 1]
        refine hKK (k - 1) _ _ _ (by omega) ⟨r + 1, w4, rfl, by omega, rfl, fr.trans (f_fr.trans ⟨fun z a1 a2 => s1 z (by omega), fun i hi => by rw [s1 b (by omega)]⟩ fr4), hw4, hE4, fun r' hr' => ?_, hf4, hK4⟩
        by_cases z : r' = r
        · rw [z]
          exact ⟨e, k4, hO4, he4⟩
        · obtain ⟨e', k', o1, o2⟩ := hO2 r' (by omega)
          have := g_bg_mono N (show r' + 1 ≤ r by omega)
          refine ⟨e', k', o1.cong (fun i a1 a2 => ?_), o2⟩
          rw [out4 i (by omega), low i (by omega)]
  · refine sX_setTimes hb hN hW hF1 hR1 hC1 g (fun σ2 q1 q2 q3 => ?_)
    rw [show (nI t + 1 : Int32) = nI (t + 1) from nI_add t 1]
    refine hK (k - 1) _ _ _ (by omega) ⟨t + 1, rfl, by omega, rfl, fun z a1 a2 => by rw [q1 z a1 a2]; exact f1 z a1 a2, fun s hs hl => ?_⟩
    by_cases z : s / 10 = t
    · have hp := hs.2
      rw [z] at hp
      have := q2 (s % 10) hp
      rw [show 10 * t + s % 10 = s by omega] at this
      exact this
    · rw [(q3 s z).1, (q3 s z).2]
      exact h1 s hs (by omega)
end XA
